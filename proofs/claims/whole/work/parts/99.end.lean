/-! THE CLAIM OUT OF ONE WALK OF THE LAW'S BODY. Your part is whole_start (and what it stands on); all else here is the same for every law, but numbers. -/
def R_law : String := "CashBallsLaw"
def lw_P (b : Addr) (xs : List Int32) (args : Array Value) (s : State) : Prop := args = #[.ref b] ∧ s.IntsAt b xs ∧ xs.length ≤ 3584 ∧ (Jvm.Cond.and given_1 narrow_1).before args s = true
def lw_Q (_ : Array Value) (s : State) (o : Outcome) (t : State) : Prop := o = .returned (some (.int 1)) ∧ Framed s o t [] 601024 7293034
def lw_Z (below : List Frame) (a : Array Value) (s : State) : State → Prop := fun t => ∃ o, t.status = .running ∧ Ended t below o ∧ lw_Q a s o t
/-- the law's own end, with 1 on the stack, nothing written that was there before, its room as the claim has it -/
theorem lw_ret {p : Program} {l : Launch} {e : Env} {s : State} {m : MethodId} {below : List Frame} {meth : Method} {c : Code} {b : Nat} (hx : p.tables.exec = Jvm.exec) (hb : c.code = code) (hr : meth.sig.returnType = ret) (hlocks : meth.locks = false) {pc : Nat} {H : Heap} {ls : Array Slot} (hdg : decode code pc = .ok (.ireturn, 1)) : W p l e room_1 s m #[Value.ref b] below meth c H [] 601024 7293034 (lw_Z below #[Value.ref b] s) (F0 m pc ls [.int 1]) := by
  intro T hT X
  obtain ⟨fs, hret, hrun, hended, hW, hframe⟩ := X.leave (v := some (.int 1)) (hlocks := hlocks) (fun h => by rw [hr] at h; cases h)
  have hmeth' : T.vm.method? m = some meth := X.method'
  refine ⟨T.setFrames fs, ?_, .returned (some (.int 1)), hrun, hended, rfl, ⟨_, rfl⟩, hW, hframe⟩
  jvm_step X.here [X.here.top, hx, hb, hdg, hmeth', hr, ret, narrow_b1]
  (try refine ⟨rfl, ?_⟩); (try refine ⟨rfl, ?_⟩)
  first | (intro acts; rw [hret _ acts rfl rfl rfl]) | rw [hret _ _ rfl rfl rfl]
  exact Steps.refl _
/-- what holds at the law's entry: the machine, the code, the tables' words (any of lw_tbl by 'hts w (by decide +kernel)'), the script of L ints xs at the cell b, what the Statement gives of the start (any of its parts by flat_of_before) -/
def lw_At (p : Program) (s : State) (m : MethodId) (meth : Method) (c : Code) (b L : Nat) (xs : Nat → Int32) : Prop :=
  p.tables.exec = Jvm.exec ∧ c.code = code ∧ meth.sig.returnType = ret ∧ c.maxLocals = 7 ∧ s.vm.findClass R_law = some m.cls ∧ (∀ w ∈ lw_tbl, w.before #[Value.ref b] s = true) ∧ va_X b L xs s s.heap ∧ b < s.heap.size ∧ meth.locks = false ∧ (Jvm.Cond.and given_1 narrow_1).before #[Value.ref b] s = true ∧ meth.name = "law" ∧ c.exceptionTable.toList = []
theorem stand_room {p : Program} {l : Launch} {e : Env} {R R' : Room} {s : State} {m : MethodId} {args : Array Value} {below : List Frame} {meth : Method} {c : Code} {T : State} {locs : List Loc} {cells slots : Nat} (h1 : R'.frames ≤ R.frames) (h2 : R'.locals ≤ R.locals) (h3 : R'.cells ≤ R.cells) (h4 : R'.slots ≤ R.slots) (X : Stand p l e R s m args below meth c T locs cells slots) : Stand p l e R' s m args below meth c T locs cells slots := by
  refine { X with room := ?_ }
  have h := X.room
  simp only [State.hasRoom, Bool.and_eq_true, decide_eq_true_eq] at h ⊢
  obtain ⟨⟨⟨⟨a1, a2, a3, a4, a5, a6⟩, a7⟩, a8⟩, a9⟩ := h
  exact ⟨⟨⟨⟨by omega, by omega, by omega, by omega, by omega, a6⟩, by omega⟩, by omega⟩, a9⟩
theorem W_room {p : Program} {l : Launch} {e : Env} {R R' : Room} {s : State} {m : MethodId} {args : Array Value} {below : List Frame} {meth : Method} {c : Code} {H : Heap} {locs : List Loc} {cells slots : Nat} {Q Q' : State → Prop} {g : JFrame} (h1 : R'.frames ≤ R.frames) (h2 : R'.locals ≤ R.locals) (h3 : R'.cells ≤ R.cells) (h4 : R'.slots ≤ R.slots) (hq : ∀ t, Q t → Q' t) (kk : W p l e R' s m args below meth c H locs cells slots Q g) : W p l e R s m args below meth c H locs cells slots Q' g := by
  intro T hT X
  obtain ⟨t, a, b⟩ := kk T hT (stand_room h1 h2 h3 h4 X)
  exact ⟨t, a, hq t b⟩
theorem i32_nat (x : Int32) : Int32.ofNat x.toUInt32.toNat = x := by
  apply Int32.toInt_inj.mp
  rw [Int32.toInt_ofNat']
  have h := x.toBitVec.toInt_eq_toNat_bmod
  exact h.symm
set_option maxHeartbeats 4000000 in
theorem whole_start {p : Program} {e : Env} {s : State} {m : MethodId} {below : List Frame} {meth : Method} {c : Code} (l : Launch) (hflags : l.flags = flags0) {b L : Nat} {xs : Nat → Int32} (hL : L ≤ 3584) (C0 : lw_At p s m meth c b L xs) : W p l e room_1 s m #[Value.ref b] below meth c s.heap [] 0 0 (lw_Z below #[Value.ref b] s) (entryFrame m ([Value.ref b] : List Value).toArray 7) := by
  obtain ⟨hx, hb, hr, hml, hown, hts, hX, hbl, hlocks, hgv, hname, htab⟩ := id C0
  have hl : l.stackTraces = false := by
    unfold Launch.stackTraces
    rw [hflags]
    decide +kernel
  have htsG : ∀ w ∈ tG, w.before #[Value.ref b] s = true := fun w hw => hts w (List.mem_filter.mp hw).1
  have hnr : ∀ w ∈ nrF, w.before #[Value.ref b] s = true := flat_of_before _ hgv
  generalize hAe : (fun q : Nat => s.heap.size ≤ q) = A
  have hA : ∀ q, s.heap.size ≤ q → A q := fun q h => by rw [← hAe]; exact h
  have hA' : ∀ q, A q → s.heap.size ≤ q := fun q h => by rw [← hAe] at h; exact h
  have hnA : ∀ q : Nat, q < s.heap.size → ¬ A q := fun q h h2 => absurd (hA' q h2) (Nat.not_le.mpr h)
  -- classes
  have hcl : ∀ t : Nat, ∃ y : ClassId × (Nat → Nat), t < 13 → u_Kn s (Rt t) (Tt t) (nf t) y.1 y.2 := by
    intro t
    by_cases ht : t < 13
    · obtain ⟨cC, iS, h⟩ := u_known (C := Rt t) (T := Tt t) (N := nf t) (n := nf t) hts (fun w hw => (List.mem_filter.mp (cls_in ht w hw)).1) (htsG _ (iw_all t ht))
      exact ⟨(cC, iS), fun _ => h⟩
    · exact ⟨(0, fun _ => 0), fun h => absurd h ht⟩
  obtain ⟨F, hF⟩ := Classical.axiomOfChoice hcl
  obtain ⟨c0, g0, n0⟩ := arrK (htsG _ aw_int)
  obtain ⟨c1, g1, n1⟩ := arrK (htsG _ aw_long)
  obtain ⟨c2, g2, n2⟩ := arrK (htsG _ aw_boolean)
  obtain ⟨c3, g3, n3⟩ := arrK (htsG _ aw_char)
  obtain ⟨c4, g4, n4⟩ := arrO (hts _ ow_S)
  obtain ⟨c5, g5, n5⟩ := arrO (hts _ ow_M)
  obtain ⟨c6, k6, hk6, hd6, n6⟩ := arrG n0 (hts _ ow_G)
  generalize hcs : (fun a : Nat => match a with | 0 => c0 | 1 => c1 | 2 => c2 | 3 => c3 | 4 => c4 | 5 => c5 | _ => c6) = cs
  have e0 : cs 0 = c0 := (congrFun hcs 0).symm
  have e1 : cs 1 = c1 := (congrFun hcs 1).symm
  have e2 : cs 2 = c2 := (congrFun hcs 2).symm
  have e3 : cs 3 = c3 := (congrFun hcs 3).symm
  have e4 : cs 4 = c4 := (congrFun hcs 4).symm
  have e5 : cs 5 = c5 := (congrFun hcs 5).symm
  have e6 : cs 6 = c6 := (congrFun hcs 6).symm
  obtain ⟨adK, adV, hS1, hS2⟩ := strK (A := A) hnr hnA
  -- the script
  generalize hsd : (fun j : Nat => match j with | 0 => b | 1 => L | j + 2 => (xs j).toUInt32.toNat) = sd
  have s0 : sd 0 = b := (congrFun hsd 0).symm
  have s1 : sd 1 = L := (congrFun hsd 1).symm
  have s2 : ∀ j, sd (2 + j) = (xs j).toUInt32.toNat := fun j => by rw [Nat.add_comm]; exact (congrFun hsd (j + 2)).symm
  generalize had : (fun t : Nat => if t = 50 then adK else if t = 51 then adV else if t = 52 then sd else fun _ => 0) = ad
  have a50 : ad 50 = adK := (congrFun had 50).symm
  have a51 : ad 51 = adV := (congrFun had 51).symm
  have a52 : ad 52 = sd := (congrFun had 52).symm
  have hK : va_K (fun t => (F t).1, fun t => (F t).2) vwCl (tys cs) s := by
    refine ⟨fun t q hq => ?_, fun k q hq => ?_⟩
    · have ht : t < 13 := (List.getElem?_eq_some_iff.mp hq).1
      have e := (cls_at ht).symm.trans hq
      cases Option.some.inj e
      exact hF t ht
    · match k, hq with
      | 0, hq => cases hq; rw [e0]; exact ⟨g0, n0⟩
      | 1, hq => cases hq; rw [e1]; exact ⟨g1, n1⟩
      | 2, hq => cases hq; rw [e2]; exact ⟨g2, n2⟩
      | 3, hq => cases hq; rw [e3]; exact ⟨g3, n3⟩
      | 4, hq => cases hq; rw [e4]; exact ⟨g4, n4⟩
      | 5, hq => cases hq; rw [e5]; exact ⟨g5, n5⟩
      | 6, hq => cases hq; rw [e6]; exact ⟨fun n z => ⟨fun x q => (by cases q), k6, hk6, c0, hd6⟩, n6⟩
      | k + 7, hq => simp [tys] at hq
  have hKx : Kx cs (fun t => (F t).1, fun t => (F t).2) A ad s s.heap := by
    refine ⟨hK, fun w hw => ?_, ?_, fun q hq => ?_, ?_, ?_, fun w hw => ?_, va_AO.of (hts _ ow_S), va_AO.of (hts _ ow_M), ⟨k6, ?_, ?_⟩, ?_, ?_, ?_, ?_, ?_⟩
    · obtain ⟨a, i, x, g, rfl⟩ := nestW_shape w hw
      exact va_Nw.of rfl (hts _ (List.mem_filter.mp hw).1)
    · rw [a50, a51]
      exact hS1
    · rw [a50]
      obtain ⟨i, hi⟩ := List.getElem?_of_mem hq
      have hi27 : i < 27 := (List.getElem?_eq_some_iff.mp hi).1
      have hq2 : q.2.2.2 = i := by
        have h : ∀ i : Nat, i < 27 → (sRef.getD i ("", 0, "", 0)).2.2.2 = i := by decide +kernel
        have h2 := h i hi27
        rw [List.getD_eq_getElem?_getD, hi] at h2
        exact h2
      have hqd : sRef.getD i ("", 0, "", 0) = q := by rw [List.getD_eq_getElem?_getD, hi]; rfl
      have hw : Cond.stringRef q.1 q.2.1 q.2.2.1 ∈ lw_tbl := by
        have hm : Cond.stringRef q.1 q.2.1 q.2.2.1 ∈ (List.range 27).map (fun i => Cond.stringRef (sRef.getD i ("", 0, "", 0)).1 (sRef.getD i ("", 0, "", 0)).2.1 (sRef.getD i ("", 0, "", 0)).2.2.1) := List.mem_map.mpr ⟨i, List.mem_range.mpr hi27, by rw [hqd]⟩
        rw [sr_w] at hm
        obtain ⟨j, -, hj⟩ := List.mem_filterMap.mp hm
        exact List.mem_of_getElem? hj
      have ht := hS2 i hi27
      unfold stm at ht
      rw [hqd] at ht
      rw [hq2]
      exact vk_R.of (hts _ hw) ht
    · exact va_Zof (hts _ ls_1) (hts _ li_1) (va_eqt (hnr _ (by decide +kernel))) hnA
    · exact va_Zqof (hts _ ls_2) (hts _ li_2) (hnr _ (by decide +kernel)) hnA
    · have hw2 := hts _ (List.mem_filter.mp hw).1
      rcases xW_shape w hw with ⟨a, b, rfl⟩ | ⟨x, rfl⟩
      · exact va_Nw.of rfl hw2
      · exact va_Nw.of rfl hw2
    · rw [e6]; exact hk6
    · rw [e0]; exact hd6
    · exact vx_Zqof (hts _ ls_3) (hts _ li_3) (hnr _ (by decide +kernel)) hnA
    · exact vx_Zqof (hts _ ls_4) (hts _ li_3) (hnr _ (by decide +kernel)) hnA
    · rw [a52, s0, s1]
      have : (fun j : Nat => Int32.ofNat (sd (2 + j))) = xs := funext fun j => by rw [s2, i32_nat]
      rw [this]
      exact hX
    · rw [a52, s0]
      exact hnA b hbl
    · rw [a52, s0]
      exact hbl
  have hR : Rep cs (fun t => (F t).1, fun t => (F t).2) A wE ad s00 s.heap := by
    refine ⟨fun k q h => ?_, ⟨fun i j x y h => ?_, fun k q h => ?_⟩, fun t i j => ?_, fun q h => ?_⟩
    · simp [wl, wE] at h
    · simp [wl, wE] at h
    · simp [wl, wE] at h
    · have : i32 (s00 t i j) := by
        unfold s00 i32
        split
        · rename_i h
          omega
        · omega
      split
      · unfold i32 at this
        unfold i64
        omega
      · exact this
    · simp [wE] at h
  have hlr := lr_entry (B := wE) (ad := ad) (vs := [.ref b]) (as := [vR 52 0]) (nn := 7) ⟨⟨Or.inr (Or.inr (Or.inr rfl)), by show Value.ref b = Value.ref (ad 52 0); rw [a52, s0]⟩, trivial⟩ (by decide)
  have hmain := EL_law (sd := sd) (by rw [s1]; exact hL) (law_pure sd (by rw [s1]; exact hL)) p ⟨l, hl⟩ e s m #[Value.ref b] below meth c s.heap [] cs (fun t => (F t).1, fun t => (F t).2) A ad ad wE _ [] a52 ⟨hx, hb, hr, hml, hown, htsG, hlocks, hname, htab⟩ hKx hA va_S.rf hR Ext.rf hlr trivial
  refine W_room (R' := rmo 516 601024 7293034) (Nat.le_of_ble_eq_true rfl) (Nat.le_of_ble_eq_true rfl) (Nat.le_refl _) (Nat.le_refl _) (fun t ht => ?_) ?_ (Q := EZ Y_L_law below cs (fun t => (F t).1, fun t => (F t).2) A wE ad (QI (fun z _ => z = 1)) #[Value.ref b] s 601024 7293034)
  · unfold EZ at ht
    rw [if_neg (by decide)] at ht
    obtain ⟨o, h1, h2, ⟨⟨r, B, σ, ad', hrv, ⟨z, rfl, -, rfl⟩, -, -⟩, -⟩, LL, hfe, hfree⟩ := ht
    refine ⟨o, h1, h2, ?_, ?_⟩
    · obtain ⟨v, rfl, x', rfl, hx'⟩ := hrv
      have : x' = 1 := Int32.toInt_inj.mp hx'
      rw [this]
    · obtain ⟨f1, f2, f3⟩ := hfe
      exact ⟨f1, f2, State.sameButNew.drop_fresh (L := []) (J := LL) (by simpa using f3) (fun x hx => hA' _ (hfree x hx))⟩
  · rw [lg_entry_eq]
    exact hmain
-- ===== YOUR PART ENDS =====
set_option maxHeartbeats 4000000 in
theorem lw_walk (l : Launch) (hflags : l.flags = flags0) (b : Addr) (xs : List Int32) : MetFree l x (headSpec (Jvm.Cond.code x code maxLocals ret :: tables_1) room_1) (lw_P b xs) (fun _ _ _ _ _ => True) lw_Q := by
  refine MetFree.of_bodyS (code := code) (maxLocals := maxLocals) (ret := ret) (by decide) ?_ ?_
  · intro args s m h hn
    obtain ⟨meth, c, h1, h2, h3, h4, h5, h6, -, -⟩ := Cond.code_spec hn (atoms_spec (ws := Jvm.Cond.code x code maxLocals ret :: tables_1) h _ List.mem_cons_self)
    exact ⟨meth, c, h1, h2, h3, h4, h5, h6⟩
  · intro p e s m args below meth c s₁ B hml0 hP _
    obtain ⟨rfl, hx, hbd, hgv⟩ := hP
    obtain ⟨scr, harrAt, hlist, hof, hsmall⟩ := hx
    obtain ⟨hcb, hkn, -, -⟩ := State.arrayAt?_spec harrAt
    have hown : s.vm.findClass R_law = some m.cls := findClass_of_methodNamed B.named
    have hts0 : ∀ c ∈ (Jvm.Cond.code x code maxLocals ret :: tables_1), c.before #[Value.ref b] s = true := atoms_spec (ws := Jvm.Cond.code x code maxLocals ret :: tables_1) B.pre
    have hts : ∀ w ∈ lw_tbl, w.before #[Value.ref b] s = true := k2_hts_sels lw_privs (fun w hw => hts0 w (List.mem_cons_of_mem _ hw)) lw_privs_ok
    have hml : c.maxLocals = 7 := B.maxLocals_eq (hts0 _ List.mem_cons_self)
    have X₀ : Stand p l e room_1 s m #[Value.ref b] below meth c s₁ [] 0 0 := Stand.of_body B
    have hh0 : s₁.heap = s.heap := by rw [B.state]; rfl
    have hsz : scr.slots.size = xs.length := by rw [← Array.length_toList, hlist, List.length_map]
    have hval : ∀ j : Nat, j < xs.length → scr.slots[j]? = some (.int (xs.getD j 0)) := fun j hj => by
      rw [← Array.getElem?_toList, hlist]
      simp [hj]
    have hbl : b < s.heap.size := (Array.getElem?_eq_some_iff.mp hcb).1
    have htab : c.exceptionTable.toList = [] := by
      obtain ⟨meth9, c9, h1, h2, -, -, -, -, h7, -⟩ := Cond.code_spec B.named (hts0 _ List.mem_cons_self)
      cases Option.some.inj (h1.symm.trans B.method)
      cases Option.some.inj (h2.symm.trans (Stand.of_body B).code)
      exact Array.isEmpty_iff.mp h7 ▸ rfl
    have hX : va_X b xs.length (fun j => xs.getD j 0) s s.heap := ⟨scr, hcb, hof, hkn, hsz, hval⟩
    have K : W p l e room_1 s m #[Value.ref b] below meth c s₁.heap [] 0 0 (lw_Z below #[Value.ref b] s) (entryFrame m ([Value.ref b] : List Value).toArray 7) := by
      rw [hh0]
      exact whole_start l hflags hbd ⟨B.exec, B.bytes, B.returns, hml, hown, hts, hX, hbl, B.notSynchronized, hgv, (name_of_methodNamed B.named B.method).1, htab⟩
    obtain ⟨t, a1, o, b1, b2, b3⟩ := K s₁ rfl X₀
    exact ⟨t, o, a1, b1, b2, b3⟩
theorem lw_pre_spec {args : Array Value} {s : State} (h : (Jvm.Cond.and given_1 narrow_1).before args s = true) (hr : rest_1_c.before args s = true) : ∃ (b : Addr) (xs : List Int32), lw_P b xs args s := by
  have hs := flat_of_before _ h
  have hq := flat_of_before _ hr
  have hc : (Cond.count 1).before args s = true := hs _ (by decide +kernel)
  have harr : (Cond.arrayOf (.arg 0) .int).before args s = true := hs _ (by decide +kernel)
  have hle : (Cond.le (.length (.arg 0)) (.int 3584)).before args s = true := hs _ (by decide +kernel)
  have hlen : (Cond.isInt (.length (.arg 0))).before args s = true := hq _ (by decide +kernel)
  have hall : (Cond.all (.arg 0) (.isInt (.elem (.arg 0) (.index 0)))).before args s = true := hq _ (by decide +kernel)
  obtain ⟨b, xs, hb, hx⟩ := State.ints_of_pre rfl harr hlen hall
  have hsm : xs.length < 2 ^ 31 := hx.choose_spec.2.2.2
  have hev : (Term.length (.arg 0)).eval args s none [] s = some (.int xs.length.toInt32) := hx.length_eval hb
  have hv := Cond.le_ints hev (show (Term.int 3584).eval args s none [] s = some (.int 3584) from rfl)
  have hd : xs.length.toInt32 ≤ 3584 := by
    simpa [Cond.before, Cond.holds, hv] using hle
  have hN : xs.length ≤ 3584 := (Int32.ofNat_le_ofNat hsm (by decide)).mp (show Int32.ofNat xs.length ≤ Int32.ofNat 3584 from hd)
  exact ⟨b, xs, Cond.one_arg hc (show args[0]? = some (.ref b) from hb), hx, hN, h⟩
theorem lw_comes (l : Launch) (hflags : l.flags = flags0) : Comes l x (Jvm.Cond.code x code maxLocals ret :: tables_1) room_1 (fun tb e args s => Calls_1 tb e args s ∧ rest_1 tb e args s ∧ Pre_1 tb e args s)
    (fun _ _ args s o t => lw_Q args s o t) := by
  intro p e ha hc hk s m args below hf hfit hheap happ hpre
  obtain ⟨b, xs, hP⟩ := lw_pre_spec hpre.2.2 hpre.2.1
  obtain ⟨k, o, h1, h2, h3, hQ⟩ := lw_walk l hflags b xs p e ha hc hk s m args below hf ((Spec.applies_iff_loose hf).mp happ).1 hP trivial
  exact ⟨k, o, h1, h2, h3, hQ⟩
theorem lw_frame {s t : State} {o : Outcome} {args : Array Value} (h : Framed s o t [] 601024 7293034) :
    Framed s o t (fieldLocs frame_1_writes args s ++ arrayLocs frame_1_arrays args s ++ staticLocs frame_1_statics s) 601024 7293034 := h
theorem lw_limb (L : Cond) (hL : ∀ (args : Array Value) (s t : State), L.after args s (.returned (some (.int 1))) t = true) :
    ArmFor flags0 classFile x code maxLocals ret World_1 tables_1 room_1 Calls_1 rest_1 Pre_1
      (fun tb e a s o t => postC L tb e a s o t ∧ Framed s o t (fieldLocs frame_1_writes a s ++ arrayLocs frame_1_arrays a s ++ staticLocs frame_1_statics s) 601024 7293034) := by
  intro l hflags _ _ p e ha hc hk s m args below hf hfit hheap happ hpre
  obtain ⟨k, o, h1, h2, h3, rfl, hF⟩ := lw_comes l hflags p e ha hc hk s m args below hf hfit hheap happ hpre
  exact ⟨k, _, h1, h2, h3, hL args s _, lw_frame hF⟩
theorem i_vc : Claimed_1_1 ∧ Claimed_1_2 := ⟨lw_limb limb_1_1 (fun args s t => by simp [limb_1_1, Cond.after, Cond.holds, Cond.value]), lw_limb limb_1_2 (fun args s t => Cond.after_iff.mpr (by
  first | (rw [show limb_1_2 = Cond.eq .result (.int 1) from rfl, Cond.eq_ints (x := 1) (y := 1) rfl rfl]; simp; done) | (simp [limb_1_2, Cond.value, Term.eval]; done)))⟩
