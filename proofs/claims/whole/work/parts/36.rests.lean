/-! THROWING: CashBalls.rests, caught by CashBallsLaw.rests -/
def nseN : List String := ["java/lang/RuntimeException", "java/lang/Exception"]
theorem at_1 : (vx_at0 "CashBalls" 292 "java/util/NoSuchElementException" nseN).filter goodWord = ([119, 1345, 1354, 1356, 1359, 1361, 1346, 1347, 129, 130, 1348, 1353, 1357, 1373, 1335, 1374, 1337, 1375, 1339, 1349, 1351, 1341, 1363, 1364, 1365, 1366, 1366, 1367, 1368, 1369, 1369, 1370, 1371, 1346, 1362, 1324, 1332, 1333, 1334, 1336, 1338, 1340, 1344, 1343, 1342].filterMap (fun i => lw_tbl[i]?)) := by decide +kernel
theorem at_2 : (vx_at0 "CashBalls" 292 "java/util/NoSuchElementException" nseN).filter (fun w => !goodWord w) = ([1326, 1328, 1330, 1325].filterMap (fun i => lw_tbl[i]?)) := by decide +kernel
theorem at_3 : ((vx_at0 "CashBalls" 292 "java/util/NoSuchElementException" nseN).filter (fun w => !goodWord w)).all (fun w => match w with | .castable _ _ => true | .declares _ => true | _ => false) = true := by decide +kernel
theorem at_4 : ∀ w ∈ Cond.classLink "CashBalls" 290 "java/util/NoSuchElementException" :: Cond.initialized "java/util/NoSuchElementException" :: vx_at0 "CashBalls" 292 "java/util/NoSuchElementException" nseN, vx_ot w = true := List.all_eq_true.mp (show (Cond.classLink "CashBalls" 290 "java/util/NoSuchElementException" :: Cond.initialized "java/util/NoSuchElementException" :: vx_at0 "CashBalls" 292 "java/util/NoSuchElementException" nseN).all vx_ot = true by decide +kernel)
theorem at_ok {args : Array Value} {s : State} (hts : ∀ w ∈ tG, w.before args s = true) (hx : ∀ w ∈ xW, va_Nw w s) : ∀ w ∈ vx_at0 "CashBalls" 292 "java/util/NoSuchElementException" nseN, w.before args s = true := by
  intro w hw
  cases g : goodWord w
  · have hm : w ∈ (vx_at0 "CashBalls" 292 "java/util/NoSuchElementException" nseN).filter (fun w => !goodWord w) := List.mem_filter.mpr ⟨hw, by rw [g]; rfl⟩
    have h3 := List.all_eq_true.mp at_3 w hm
    rw [at_2] at hm
    obtain ⟨i, -, hi⟩ := List.mem_filterMap.mp hm
    have hX : w ∈ xW := List.mem_filter.mpr ⟨List.mem_of_getElem? hi, h3⟩
    refine va_Nw.use ?_ (hx w hX)
    rcases xW_shape w hX with ⟨a, b, rfl⟩ | ⟨x, rfl⟩ <;> rfl
  · have hm : w ∈ (vx_at0 "CashBalls" 292 "java/util/NoSuchElementException" nseN).filter goodWord := List.mem_filter.mpr ⟨hw, g⟩
    rw [at_1] at hm
    obtain ⟨i, -, hi⟩ := List.mem_filterMap.mp hm
    exact hts w (List.mem_filter.mpr ⟨List.mem_of_getElem? hi, g⟩)
theorem nse_k : Cond.classLink "CashBalls" 290 "java/util/NoSuchElementException" ∈ tG := inG (i := 1323) (by decide +kernel) (by decide +kernel)
theorem nse_i : Cond.initialized "java/util/NoSuchElementException" ∈ tG := inG (i := 122) (by decide +kernel) (by decide +kernel)
theorem nse_c : Cond.castable "java/util/NoSuchElementException" "java/util/NoSuchElementException" ∈ xW := List.mem_filter.mpr ⟨List.mem_of_getElem? (i := 1325) (by decide +kernel), rfl⟩
theorem nse_l : Cond.classLink "CashBallsLaw" 13 "java/util/NoSuchElementException" ∈ tG := inG (i := 1318) (by decide +kernel) (by decide +kernel)
section Throws
variable {Y : My} {d mc ms : Nat} {Q : Option AV → Wd → St → Prop} {B : Wd} {k n pc : Nat} {ls : List (Option AV)} {st : List AV} {σ : St}
/-- a contract of a method that may throw -/
def CnX (Y : My) (d mc ms : Nat) (B : Wd) (σ : St) (as : List AV) (Q : Option AV → Wd → St → Prop) : Prop :=
  ∀ (l : LL) (cs : Nat → ClassId) (D : va_G) (A : Nat → Prop) (ad : Ad) (vs : List Value),
    vx_Met l.1 Y.1 (wsY Y) (rmo d mc ms) (fun v U => v = vs.toArray ∧ Kx cs D A ad U U.heap ∧ (∀ q, U.heap.size ≤ q → A q) ∧ Rep cs D A B ad σ U.heap ∧ sr B ad vs as) (QC cs D A B ad Q) (XF cs D A B ad Q) mc ms A
theorem CnX_of {as : List AV} (ls : List (Option AV)) (hp : plainName Y.1.cls = true) (h1 : kd Y.1 = 1) (hn : (ea as).length ≤ Y.2.2.1) (hls : ea as ++ List.replicate (Y.2.2.1 - (ea as).length) none = ls) (h : E Y d mc ms Q B 0 0 0 ls [] σ) : CnX Y d mc ms B σ as Q := by
  intro l cs D A ad vs
  refine vx_ofW (cc := Y.2.1) (maxL := Y.2.2.1) (ret := Y.2.2.2) hp rfl ?_
  intro p e s m args below meth c s₁ Bd hml htab hv
  obtain ⟨rfl, hK, hA, hR, hsr⟩ := hv
  have hts := atoms_spec (ws := wsY Y) Bd.pre
  rw [lg_entry_eq]
  have ht : c.exceptionTable.toList = tbl Y.1 := by
    rw [tbl, if_neg (by rw [h1]; decide)]
    exact List.eq_nil_iff_forall_not_mem.mpr htab
  have hE := h p l e s m _ below meth c s.heap [] cs D A ad ad B _ [] ⟨Bd.exec, Bd.bytes, Bd.returns, hml, findClass_of_methodNamed Bd.named, fun w hw => hts w (List.mem_cons_of_mem _ hw), Bd.notSynchronized, (name_of_methodNamed Bd.named Bd.method).1, ht⟩ hK hA va_S.rf hR Ext.rf (hls ▸ lr_entry hsr hn) trivial
  unfold EZ at hE
  rw [if_pos h1] at hE
  exact hE
/-- throw new NoSuchElementException() -/
theorem E_throw (h1 : kd Y.1 = 1) (ho : Y.1.cls = "CashBalls") (d0 : decode Y.2.1 pc = .ok (.new 290, 3)) (d3 : decode Y.2.1 (pc + 3) = .ok (.dup, 1)) (d4 : decode Y.2.1 (pc + 4) = .ok (.invokespecial 292, 3)) (d7 : decode Y.2.1 (pc + 7) = .ok (.athrow, 1)) (hd : 6 ≤ d) (hk : k + 1 ≤ mc) (hn : n + 6 ≤ ms) (hq : Q (some (vR 77 0)) B σ) : E Y d mc ms Q B k n pc ls [] σ := by
  intro p l e s m args below meth c H locs cs D A ad ad0 B0 lc sc hC hK hA hS hR hX hl hs
  have := sr_0 hs
  subst this
  have hts := hC.2.2.2.2.2.1
  obtain ⟨z1, -, -, -, z5, z6, -⟩ := hK.2.2.2.2.2.2
  unfold EZ
  rw [if_pos h1]
  refine vx_throw0 (own := "CashBalls") (cls := "java/util/NoSuchElementException") (names := nseN) (ik := 290) (ic := 292) hC.1 hC.2.1 l.2 (ho ▸ hC.2.2.2.2.1) (by decide +kernel) (by decide +kernel) (hts _ nse_k) (hts _ nse_i) (at_ok hts z1) at_4 z5 z6 hS (hl.1.trans hC.2.2.2.1.symm) d0 d3 d4 d7 ?_ ?_ ?_ hk hn hC.2.2.2.2.2.2.1 ?_ hS.2.2 hk hn
  · intro x hx
    rw [hC.2.2.2.2.2.2.2.2, tbl, if_neg (by rw [h1]; decide)] at hx
    cases hx
  · show 2 + 3 < d
    omega
  · show (List.map (fun v => Value.category v) []).sum + (13 * (2 + 1) + 42) ≤ 64 * d
    simp only [List.map_nil, List.sum_nil]
    omega
  · intro t hal hz hk2
    have hk3 : ∀ (k : Nat) (x : Nat × va_E), (wl cs B ad σ)[k]? = some x → t.heap[x.1]? = H[x.1]? := fun k x hx => hk2 x.1 (hR.1 k x hx).lt
    refine ⟨rfl, ⟨B, σ, ad, hq, ⟨hR.1.kept hk3, hR.2.1, hR.2.2.1, hR.2.2.2⟩, hX⟩, Nat.le_trans hS.1 hz, fun q q1 q2 => ?_⟩
    rw [hk2 q (Nat.lt_of_lt_of_le q1 hS.1)]
    exact hS.2.1 q q1 q2
/-- Q where it returns, T where it throws -/
def QX (Q : Int → St → Prop) (T : St → Prop) : Option AV → Wd → St → Prop := fun r B σ => (∃ z, r = some (vI z) ∧ B = ww ∧ Q z σ) ∨ (r = some (vR 77 0) ∧ B = ww ∧ T σ)
theorem lr_kill {B : Wd} {ad : Ad} {lc lc' : Array Slot} {i : Nat} {v : Value} (h : lr B ad lc Y.2.2.1 ls) (h' : lv_has lc' Y.2.2.1 ((i, v) :: (allv lc).filter (fun q => !(q.1 == i) && !(q.1 + 1 == i && q.2.category == 2)))) : lr B ad lc' Y.2.2.1 ((kil ls i).set i none) := by
  refine ⟨h'.1, h'.2.1, fun j b hb => ?_⟩
  by_cases e : i = j
  · subst e
    rw [List.getElem?_set] at hb
    simp at hb
  · rw [List.getElem?_set_ne e] at hb
    obtain ⟨h1, h2⟩ := kil_get hb
    obtain ⟨w, hw1, hw2⟩ := h.2.2 j b h1
    refine ⟨w, h'.2.2 (j, w) (List.mem_cons_of_mem _ (List.mem_filter.mpr ⟨allv_in.mpr hw1, ?_⟩)), hw2⟩
    simp only [Bool.and_eq_true, Bool.not_eq_true', beq_eq_false_iff_ne, ne_eq, Bool.and_eq_false_iff]
    refine ⟨fun q => e q.symm, ?_⟩
    by_cases e2 : j + 1 = i
    · right
      intro hc
      apply h2
      refine ⟨e2, ?_⟩
      match b, hw2 with
      | .inl z, hw2 => obtain ⟨x, rfl, -⟩ := hw2; simp [Value.category] at hc
      | .inr (.inl z), hw2 => exact ⟨z, rfl⟩
      | .inr (.inr r), hw2 => obtain ⟨-, rfl⟩ := hw2; simp [Value.category] at hc
    · left
      exact e2
/-- the call that may throw, caught; the handler's first instruction puts the exception away -/
theorem E_callX {Y' : My} {d' mc' ms' index np t i xi : Nat} {as : List AV} {stk : List AV} {Q' : Int → St → Prop} {T' : St → Prop} {ls' : List (Option AV)} (h2 : kd Y.1 = 2) (ho : Y.1.cls = "CashBallsLaw") (hpc : pc < 14) (hd : decode Y.2.1 pc = .ok (.invokevirtual index, 3)) (d17 : decode Y.2.1 17 = .ok (.astore xi, 2)) (hxi : xi < Y.2.2.1) (hls : (kil ls xi).set xi none = ls') (hL : Cond.methodLink Y.1.cls index Y'.1 ∈ tG) (hM : MV Y' np t) (hdd : d' + 1 ≤ d) (hk : k + mc' ≤ mc) (hn : n + ms' ≤ ms) (hstk : stk = as.reverse ++ vR t i :: st) (has : as.length = np) (hcat : cat st ≤ 8) (hC' : CnX Y' d' mc' ms' B σ (vR t i :: as) (QX Q' T'))
    (kk : ∀ z σ', Q' z σ' → E Y d mc ms Q ww (k + mc') (n + ms') (pc + 3) ls (vI z :: st) σ') (kx : ∀ σ', T' σ' → E Y d mc ms Q ww (k + mc') (n + ms') 19 ls' [] σ') : E Y d mc ms Q B k n pc ls stk σ := by
  intro p l e s m args below meth c H locs cs D A ad ad0 B0 lc sc hC hK hA hS hR hX hl hs
  subst hstk
  subst hls
  obtain ⟨va, vb, rfl, h1, h2', hlen⟩ := sr_app hs
  obtain ⟨_, rest, rfl, ⟨hm, rfl⟩, h3⟩ := sr_1 h2'
  obtain ⟨⟨hM1, hM2, hM3, hM4⟩, hM5, hM6, ht⟩ := hM
  have hm := hm.resolve_right (out_obj ht)
  obtain ⟨q, hq1, hq2⟩ := wl_at (cs := cs) (ad := ad) (σ := σ) hm
  have hts := hC.2.2.2.2.2.1
  have hcell := va_recv hK.1 hR.1 (cls_at ht) (a := ad t i) (q0 := q) (fs := (List.range (nf t)).map (fun j => sv B ad σ t i j)) (by rw [hq2, ce_obj ht])
  have hsr : sr B ad (Value.ref (ad t i) :: va.reverse) (vR t i :: as) := ⟨⟨Or.inl hm, rfl⟩, by have := sr_rev h1; rw [List.reverse_reverse] at this; exact this⟩
  have hrun := vx_runV (p := p) (e := e) (below := below) (meth := meth) (locs := locs) (cells := k) (slots := n) (As := va.reverse) (rest := rest) (b := ad t i) (C := Rt t) (g := F0 m pc lc (va ++ Value.ref (ad t i) :: rest)) (nL := Y.2.2.1) (R := rmo d mc ms) (H := H) ⟨hC.1, hC.2.1, hC.2.2.2.1, hC.2.2.2.2.1, hts⟩ (hC' l cs D A ad (Value.ref (ad t i) :: va.reverse))
    ⟨callB_of np hts (wsY_good ⟨hM1, hM2, hM3, hM4⟩) rfl rfl rfl (hts _ hM2) (hts _ hL) hM4 (rooms hdd hM3), hts _ hM5, hts _ hM6⟩
    ⟨fun a U g mk q => ⟨q.1, q.2.1.blind, q.2.2.1, q.2.2.2.1, q.2.2.2.2⟩, hcell, fun U hU hW => ⟨rfl, Kx.warm hW hU hS hK, fun q hq => hA q (Nat.le_trans hS.1 (by rw [← hU]; exact hq)), by rw [hU]; exact hR, hsr⟩⟩
    rfl (by rw [List.length_reverse, hlen, List.length_reverse, has]) hl.1 (by rw [List.reverse_reverse]) (lv_room (by rw [cat_sr h3]; exact hcat)) hd ⟨hk, hn⟩
  intro T hT X
  rcases hrun T hT X with ⟨v, st₀, t2, T2, L, h0, X', hL2, e1, e2, ⟨⟨r, B', σ', ad', hrv, hQ, hRep, hExt⟩, hz, hkp⟩, hst⟩ | ⟨q, st₀, t2, T2, L, E9, ce, h0, X', hL2, e1, e2, ⟨rfl, ⟨B', σ', ad', hQ, hRep, hExt⟩, hz, hkp⟩, hce, hcv, hcl, hst⟩
  · rw [h0] at hz hkp
    have hS' : va_S A s.heap T2.heap (locs ++ L) := ⟨Nat.le_trans hS.1 (by rw [e1]; exact hz), fun q h1 h2 => by rw [e1, hkp q (Nat.lt_of_lt_of_le h1 hS.1) h2]; exact hS.2.1 q h1 h2, fun q hq => by
      rcases List.mem_append.mp hq with h | h
      · exact hS.2.2 q h
      · exact hL2 q h⟩
    rcases hQ with ⟨z, rfl, rfl, hQ⟩ | ⟨rfl, rfl, hQ⟩
    · obtain ⟨w, hw, hb⟩ := hrv
      have hv : v = some w := Outcome.returned.inj hw
      subst hv
      obtain ⟨t3, a1, b1⟩ := kk z σ' hQ p l e s m args below meth c T2.heap (locs ++ L) cs D A ad' ad0 B0 lc (w :: rest) hC (hK.ext hExt) hA hS' (by rw [e1]; exact hRep) (hX.tr hExt) (hl.ext hExt) ⟨hb, h3.ext hExt⟩ T2 rfl X'
      exact ⟨t3, hst t3 a1, b1⟩
    · obtain ⟨w, hw, hb, -⟩ := hrv
      rcases hb with hb | hb
      · exact absurd hb (by decide +kernel)
      · exact absurd hb (ou_no rfl)
  · rw [h0] at hz hkp
    have hS' : va_S A s.heap T2.heap (locs ++ L) := ⟨Nat.le_trans hS.1 (by rw [e1]; exact hz), fun q h1 h2 => by rw [e1, hkp q (Nat.lt_of_lt_of_le h1 hS.1) h2]; exact hS.2.1 q h1 h2, fun q hq => by
      rcases List.mem_append.mp hq with h | h
      · exact hS.2.2 q h
      · exact hL2 q h⟩
    rcases hQ with ⟨z, h9, -⟩ | ⟨-, rfl, hQ⟩
    · cases h9
    · have htab : c.exceptionTable.toList = [] ++ (⟨0, 14, 17, 13⟩ : ExceptionTableEntry) :: [] := by rw [hC.2.2.2.2.2.2.2.2, tbl, if_pos h2]; rfl
      have hcatch := vx_catch (p := p) (l := l.1) (e := e) (R := rmo d mc ms) (args := args) (below := below) (meth := meth) (H := T2.heap) (locs := locs ++ L) (cells := k + mc') (slots := n + ms') (Q := EZ Y below cs D A B0 ad0 Q args s mc ms) (ls := lc) (rest := rest) (pc := pc) (own := "CashBallsLaw") (name := "java/util/NoSuchElementException") (E := "java/util/NoSuchElementException") (ce := ce) (q := q) (ho ▸ hC.2.2.2.2.1) [] ⟨0, 14, 17, 13⟩ [] htab (fun _ h => by cases h) (by show (decide (0 ≤ pc) && decide (pc < 14)) = true; rw [decide_eq_true (Nat.zero_le pc), decide_eq_true hpc]; rfl) (by decide) (hts _ nse_l) (va_Nw.use rfl (hK.2.2.2.2.2.2.1 _ nse_c)) (by rw [e1]; exact hce) hcv hcl (by
        refine lv_astore hC.1 hC.2.1 d17 (allv_has hl.1 hl.2.1) hxi rfl (fun lc' h' => ?_)
        exact kx σ' hQ p l e s m args below meth c T2.heap (locs ++ L) cs D A ad' ad0 B0 lc' [] hC (hK.ext hExt) hA hS' (by rw [e1]; exact hRep) (hX.tr hExt) (lr_kill (hl.ext hExt) h') trivial)
      obtain ⟨t3, a1, b1⟩ := hcatch T2 rfl X'
      exact ⟨t3, hst.trans a1, b1⟩
/-- a contract of a method with a table -/
def wsW (Y : My) : List Cond := Cond.codeWith Y.1 Y.2.1 Y.2.2.1 Y.2.2.2 [(0, 14, 17, 13)] :: tG
def CnW (Y : My) (d mc ms : Nat) (B : Wd) (σ : St) (as : List AV) (Q : Option AV → Wd → St → Prop) : Prop :=
  ∀ (l : LL) (cs : Nat → ClassId) (D : va_G) (A : Nat → Prop) (ad : Ad) (vs : List Value),
    Met l.1 Y.1 (wsW Y) (rmo d mc ms) (fun v U => v = vs.toArray ∧ Kx cs D A ad U U.heap ∧ (∀ q, U.heap.size ≤ q → A q) ∧ Rep cs D A B ad σ U.heap ∧ sr B ad vs as) (QC cs D A B ad Q) mc ms A
theorem CnW_of {as : List AV} (ls : List (Option AV)) (hp : plainName Y.1.cls = true) (h2 : kd Y.1 = 2) (hn : (ea as).length ≤ Y.2.2.1) (hls : ea as ++ List.replicate (Y.2.2.1 - (ea as).length) none = ls) (h : E Y d mc ms Q B 0 0 0 ls [] σ) : CnW Y d mc ms B σ as Q := by
  intro l cs D A ad vs
  refine MetFree.of_bodyS (code := Y.2.1) (maxLocals := Y.2.2.1) (ret := Y.2.2.2) hp ?_ ?_
  · intro args s m h hn
    obtain ⟨m9, meth, c, hn9, g1, g2, g3, g4, -, g5, g6, -⟩ := Cond.codeWith_spec (atoms_spec (ws := wsW Y) h _ List.mem_cons_self)
    cases hn.symm.trans hn9
    exact ⟨meth, c, g1, g2, g3, g4, g5, g6⟩
  · intro p e s m args below meth c s₁ Bd hml hP _
    have hh0 : s₁.heap = s.heap := by rw [Bd.state]; rfl
    obtain ⟨rfl, hK, hA, hR, hsr⟩ := hP
    have hts := atoms_spec (ws := wsW Y) Bd.pre
    have ht : c.exceptionTable.toList = tbl Y.1 := by
      rw [vx_table (x := Y.1) Bd (hts _ List.mem_cons_self), tbl, if_pos h2]
      rfl
    have hE := h p l e s m _ below meth c s.heap [] cs D A ad ad B _ [] ⟨Bd.exec, Bd.bytes, Bd.returns, hml, findClass_of_methodNamed Bd.named, fun w hw => hts w (List.mem_cons_of_mem _ hw), Bd.notSynchronized, (name_of_methodNamed Bd.named Bd.method).1, ht⟩ hK hA va_S.rf hR Ext.rf (hls ▸ lr_entry hsr hn) trivial
    unfold EZ at hE
    rw [if_neg (by rw [h2]; decide), ← lg_entry_eq] at hE
    obtain ⟨t, a1, o, b1, b2, b3⟩ := hE s₁ hh0 (Stand.of_body Bd)
    exact ⟨t, o, a1, b1, b2, ⟨b3.1, b3.2⟩⟩
theorem EL_callSW {sd : Nat → Nat} {Y' : My} {d' mc' ms' index np : Nat} {as : List AV} {stk : List AV} {Q' : Option AV → Wd → St → Prop} (hd : decode Y.2.1 pc = .ok (.invokestatic index, 3)) (hL : Cond.methodLink Y.1.cls index Y'.1 ∈ tG) (hM1 : Cond.codeWith Y'.1 Y'.2.1 Y'.2.2.1 Y'.2.2.2 [(0, 14, 17, 13)] ∈ tG) (hM2 : Cond.initialized Y'.1.cls ∈ tG) (hM3 : Y'.2.2.1 ≤ 45) (hM4 : Y'.1.cls ≠ "java/lang/invoke/MethodHandle" ∧ Y'.1.cls ≠ "java/lang/invoke/VarHandle" ∧ (parseMethodDescriptor Y'.1.desc).map (fun d => d.parameters.length) = some np) (hM5 : Cond.static Y'.1 ∈ tG) (hdd : d' + 1 ≤ d) (hk : k + mc' ≤ mc) (hn : n + ms' ≤ ms) (hstk : stk = as.reverse ++ st) (has : as.length = np) (hcat : cat st ≤ 8) (hC' : CnW Y' d' mc' ms' B σ as Q')
    (kk : ∀ r B' σ', Q' r B' σ' → EL sd Y d mc ms Q B' (k + mc') (n + ms') (pc + 3) ls (pu r st) σ') : EL sd Y d mc ms Q B k n pc ls stk σ := by
  intro p l e s m args below meth c H locs cs D A ad ad0 B0 lc sc hq hC hK hA hS hR hX hl hs
  subst hstk
  obtain ⟨va, rest, rfl, h1, h3, hlen⟩ := sr_app hs
  have hts := hC.2.2.2.2.2.1
  have hsr : sr B ad va.reverse as := by have := sr_rev h1; rw [List.reverse_reverse] at this; exact this
  have hG : GoodIn tG (va_wsS Y.1.cls index Y'.1 (wsW Y')) := by
    intro w hw
    unfold va_wsS at hw
    refine ⟨?_, ?_⟩
    · simp only [List.mem_append, List.mem_cons, List.not_mem_nil, or_false, wsW] at hw
      rcases hw with (rfl | rfl | rfl) | rfl | hw
      · exact hL
      · exact hM5
      · exact hM2
      · exact hM1
      · exact hw
    · simp only [List.mem_append, List.mem_cons, List.not_mem_nil, or_false, wsW] at hw
      rcases hw with (rfl | rfl | rfl) | rfl | hw
      · exact tG_good _ hL
      · exact tG_good _ hM5
      · exact tG_good _ hM2
      · exact tG_good _ hM1
      · exact tG_good _ hw
  have hrun := vx_runSW (p := p) (e := e) (below := below) (meth := meth) (locs := locs) (cells := k) (slots := n) (As := va.reverse) (rest := rest) (g := F0 m pc lc (va ++ rest)) (nL := Y.2.2.1) (R := rmo d mc ms) (H := H) ⟨hC.1, hC.2.1, hC.2.2.2.1, hC.2.2.2.2.1, hts⟩ (hC' l cs D A ad va.reverse)
    (vx_cwSW np hts hG rfl rfl rfl hM4 (rooms hdd hM3))
    ⟨fun a U g mk q => ⟨q.1, q.2.1.blind, q.2.2.1, q.2.2.2.1, q.2.2.2.2⟩, fun U hU hW => ⟨rfl, Kx.warm hW hU hS hK, fun q hq => hA q (Nat.le_trans hS.1 (by rw [← hU]; exact hq)), by rw [hU]; exact hR, hsr⟩⟩
    rfl (by rw [List.length_reverse, hlen, List.length_reverse, has]) hl.1 (by rw [List.reverse_reverse]) (lv_room (by rw [cat_sr h3]; exact hcat)) hd ⟨hk, hn⟩
  exact EL_after hrun hq hC hK hA hS hX hl h3 kk
end Throws
