theorem iw_X11 : Cond.instantiable (Rt 11) (nf 11) ∈ tG := inG (i := 124) (by decide +kernel) (by decide +kernel)
theorem iw_X12 : Cond.instantiable (Rt 12) (nf 12) ∈ tG := inG (i := 1391) (by decide +kernel) (by decide +kernel)
theorem nw_X11 : Cond.initialized (Rt 11) ∈ tG := inG (i := 98) (by decide +kernel) (by decide +kernel)
theorem ck_RL_8 : Cond.classLink RL 8 "CashBalls" ∈ tG := inG (i := 123) (by decide +kernel) (by decide +kernel)
theorem nw_X12 : Cond.initialized (Rt 12) ∈ tG := inG (i := 110) (by decide +kernel) (by decide +kernel)
theorem ck_RL_16 : Cond.classLink RL 16 "CashBallsModel" ∈ tG := inG (i := 1390) (by decide +kernel) (by decide +kernel)
theorem lk_RL_15 : Cond.methodLink RL 15 yX11_init ∈ tG := inG (i := 125) (by decide +kernel) (by decide +kernel)
theorem lk_RL_18 : Cond.methodLink RL 18 yX12_init ∈ tG := inG (i := 1392) (by decide +kernel) (by decide +kernel)
theorem ow_S : Cond.arrayOver (.object "CashBalls$State") ∈ lw_tbl := List.mem_of_getElem? (i := 366) (by decide +kernel)
theorem ow_M : Cond.arrayOver (.object "CashBalls$Mark") ∈ lw_tbl := List.mem_of_getElem? (i := 398) (by decide +kernel)
theorem ow_G : Cond.arrayOver (.array .int) ∈ lw_tbl := List.mem_of_getElem? (i := 406) (by decide +kernel)
theorem ls_1 : Cond.laysStatic "java/lang/String" "COMPACT_STRINGS" "Z" ∈ lw_tbl := List.mem_of_getElem? (i := 578) (by decide +kernel)
theorem ls_2 : Cond.laysStatic "jdk/internal/util/Preconditions" "SIOOBE_FORMATTER" "Ljava/util/function/BiFunction;" ∈ lw_tbl := List.mem_of_getElem? (i := 621) (by decide +kernel)
theorem ls_3 : Cond.laysStatic Bundle.tN "UNASSIGNED_STACK" Bundle.steD ∈ lw_tbl := List.mem_of_getElem? (i := 1350) (by decide +kernel)
theorem ls_4 : Cond.laysStatic Bundle.tN "SUPPRESSED_SENTINEL" Bundle.listD ∈ lw_tbl := List.mem_of_getElem? (i := 1352) (by decide +kernel)
theorem li_1 : Cond.initialized "java/lang/String" ∈ lw_tbl := List.mem_of_getElem? (i := 111) (by decide +kernel)
theorem li_2 : Cond.initialized "jdk/internal/util/Preconditions" ∈ lw_tbl := List.mem_of_getElem? (i := 115) (by decide +kernel)
theorem li_3 : Cond.initialized Bundle.tN ∈ lw_tbl := List.mem_of_getElem? (i := 119) (by decide +kernel)
theorem sr_w : (List.range 27).map (fun i => Cond.stringRef (sRef.getD i ("", 0, "", 0)).1 (sRef.getD i ("", 0, "", 0)).2.1 (sRef.getD i ("", 0, "", 0)).2.2.1) = [564, 655, 709, 717, 737, 751, 760, 761, 762, 763, 764, 765, 776, 781, 795, 812, 813, 814, 815, 816, 834, 835, 869, 870, 871, 872, 873].filterMap (fun i => lw_tbl[i]?) := by decide +kernel
/-! THE START: objects made, then the loop -/
def s00 : St := fun t _ x => if t = 600 ∧ 0 ≤ x ∧ x < 16 then x + 2 else 0
/-- WHAT IS LEFT: the law, as numbers alone -/
def LawP (sd : Nat → Nat) : Prop := P_X12_fresh0 (up (up (up s00 8 0 13 2) 8 1 13 2) 1310 0 2 2) (fun σ1 => (∀ j : Nat, σ1 60 0 j = 0) ∧ P_L_law_L23 sd (fun z _ => z = 1) FU 0 σ1)
theorem s00_600 : ∀ j : Nat, j < 16 → go s00 600 0 j = (9, j + 2) := by
  intro j hj
  show (9, (s00 600 0 j).toNat) = _
  unfold s00
  rw [if_pos ⟨rfl, by omega, by omega⟩]
  congr 1
theorem s00_z (L : List (Nat × Nat)) : ZeL s00 L := fun q _ h6 x => if_neg (fun e => h6 e.1)
theorem pz_1 : ∀ q ∈ ww.1, q ∈ (ad1 w6 60 0).1 := by decide +kernel
theorem pz_2 : ∀ q ∈ (ad1 w6 60 0).1, q ∈ ww.1 := by decide +kernel
theorem pz_3 : ww.1.Nodup := by decide +kernel
theorem pz_5 : ∀ q ∈ (ad1 w6 60 0).1, ∀ j, rfp q.1 j = true → ww.2 q.1 q.2 j = (ad1 w6 60 0).2 q.1 q.2 j := by
  intro q _ j hj
  refine (if_neg (fun e => ?_)).symm
  rw [e] at hj
  cases hj
theorem pz_6 : (60, 0) ∉ w6.1 := by decide +kernel
set_option maxRecDepth 20000 in
set_option maxHeartbeats 8000000 in
theorem EL_law {sd : Nat → Nat} (hsd : sd 1 ≤ 3584) (h : LawP sd) : EL sd Y_L_law 516 601024 7293034 (QI (fun z _ => z = 1)) wE 0 0 0 [some (vR 52 0), none, none, none, none, none, none] [] s00 := by
  refine EL_new (t := 11) (i := 0) dL_law_0 (by decide) ck_RL_8 iw_X11 nw_X11 (FrE [(11, 0)]).hd.1 (FrE [(11, 0)]).hd.2 (fun _ => rfl) (by decide) (by decide) ?_
  refine EL_dup dL_law_3 (fun _ q => by cases q) ?_
  refine EL_callI (Y' := Y_X11_init) (as := []) (st := [vR 11 0]) dL_law_4 lk_RL_15 mi_X11_init ii_X11_init rfl rfl (by decide) (by decide) (by decide) rfl rfl (Nat.le_of_ble_eq_true rfl) (s_X11_init (i := 0) Fr11 (fun _ => rfl) (s00_z _) s00_600) (fun r0 B0 σ0 h9 => ?_)
  obtain ⟨rfl, rfl, rfl⟩ := h9
  refine EL_astore_n (ls' := [some (vR 52 0), some (vR 11 0), none, none, none, none, none]) dL_law_7 rfl (by decide) rfl ?_
  refine EL_new (t := 12) (i := 0) dL_law_8 (by decide) ck_RL_16 iw_X12 nw_X12 Fr12a.1 Fr12a.2 (fun _ => rfl) (by decide) (by decide) ?_
  refine EL_dup dL_law_11 (fun _ q => by cases q) ?_
  refine EL_callI (Y' := Y_X12_init) (as := []) (st := [vR 12 0]) dL_law_12 lk_RL_18 mi_X12_init ii_X12_init rfl rfl (by decide) (by decide) (by decide) rfl rfl (Nat.le_of_ble_eq_true rfl) (s_X12_init (fun _ => rfl) (ZeL_up (ZeL_up (s00_z _) (by decide +kernel)) (by decide +kernel)) h) (fun r0 B0 σ1 h9 => ?_)
  obtain ⟨rfl, rfl, hz, h⟩ := h9
  refine EL_astore_n (ls' := [some (vR 52 0), some (vR 11 0), some (vR 12 0), none, none, none, none]) dL_law_15 rfl (by decide) rfl ?_
  refine EL_ic dL_law_16 rfl ?_
  refine EL_newL (t := 60) (i := 0) dL_law_17 sh_60 rfl (by decide) aw_long pz_6 (fun _ => rfl) hz (by decide) (by decide) ?_
  refine EL_perm (B' := ww) pz_1 pz_2 pz_3 pz_5 ?_
  refine EL_astore_n (ls' := [some (vR 52 0), some (vR 11 0), some (vR 12 0), some (vR 60 0), none, none, none]) dL_law_19 rfl (by decide) rfl ?_
  refine EL_ic dL_law_20 rfl ?_
  refine EL_istore (ls' := [some (vR 52 0), some (vR 11 0), some (vR 12 0), some (vR 60 0), some (vI 0), none, none]) dL_law_21 (by decide) rfl ?_
  exact e_P_L_law_L23 hsd FU _ _ (by decide) (by decide) 0 σ1 h
/-! what the statement gives of the start -/
theorem arrK {args : Array Value} {s : State} {ty : FieldType} (h : (Cond.arrayClass ty).before args s = true) : ∃ cA : ClassId, ArrOfT s cA ty ∧ s.vm.findClass ("[" ++ ty.toString) = some cA := by
  obtain ⟨c, k, comp, h1, h2, h3⟩ := Cond.arrayClass_spec h
  exact ⟨c, fun n z => ⟨fun x q => (by cases q), k, h2, comp, h3⟩, h1⟩
theorem arrO {args : Array Value} {s : State} {C : String} (h : (Cond.arrayOver (.object C)).before args s = true) : ∃ cA : ClassId, ArrOfT s cA (.object C) ∧ va_RA s cA (.object C) := by
  obtain ⟨comp, c, k, h1, h2, h3, h4, h5⟩ := Cond.arrayOver_spec h
  exact ⟨c, fun n z => ⟨fun x q => (by cases q), k, h3, comp, h4⟩, k, comp, h3, h4, h1, h5⟩
theorem arrG {args : Array Value} {s : State} {c0 : ClassId} (h0 : s.vm.findClass "[I" = some c0) (h : (Cond.arrayOver (.array .int)).before args s = true) : ∃ (cA : ClassId) (k : Class), s.vm.classes[cA]? = some k ∧ k.kind = .array c0 (.array .int) ∧ s.vm.findClass "[[I" = some cA := by
  simp only [Cond.before, Cond.holds, Cond.value, beq_iff_eq] at h
  rw [show s.vm.findClass (FieldType.array FieldType.int).toString = some c0 from h0] at h
  simp only [Option.bind_some, Option.bind_eq_some_iff, Option.map_eq_some_iff] at h
  obtain ⟨c, hi, k, hk, hb⟩ := h
  obtain ⟨hlt, hp, -⟩ := Array.findIdx?_eq_some_iff_getElem.mp hi
  have hkk : s.vm.classes[c] = k := (Array.getElem?_eq_some_iff.mp hk).2
  rw [hkk] at hp
  cases hkind : k.kind with
  | array component ty =>
    rw [hkind] at hb hp
    simp at hb hp
    exact ⟨c, k, hk, by rw [hkind, hp, hb.1], hb.2⟩
  | _ => rw [hkind] at hb; simp at hb
theorem iw_all : ∀ t, t < 13 → Cond.instantiable (Rt t) (nf t) ∈ tG := by
  intro t ht
  match t, ht with
  | 0, _ => exact iw_X0
  | 1, _ => exact iw_X1
  | 2, _ => exact iw_X2
  | 3, _ => exact iw_X3
  | 4, _ => exact iw_X4
  | 5, _ => exact iw_X5
  | 6, _ => exact iw_X6
  | 7, _ => exact iw_X7
  | 8, _ => exact iw_X8
  | 9, _ => exact iw_X9
  | 10, _ => exact iw_X10
  | 11, _ => exact iw_X11
  | 12, _ => exact iw_X12
  | t + 13, h => omega
/-- the terms of the String constants -/
def stm (i : Nat) : Term := .string (sRef.getD i ("", 0, "", 0)).1 (sRef.getD i ("", 0, "", 0)).2.1
def nrF : List Cond := flatC (Jvm.Cond.and given_1 narrow_1)
def stL (i : Nat) : List Cond := Cond.exactly (stm i) "java/lang/String" :: Cond.eq (.field (stm i) "java/lang/String" "coder" "B") (.int 0) :: Cond.arrayOf (.field (stm i) "java/lang/String" "value" "[B") .byte :: Cond.eq (.length (.field (stm i) "java/lang/String" "value" "[B")) (.int (Int32.ofNat (sLen.getD i 0))) :: (List.range (sLen.getD i 0)).map (fun j => Cond.eq (.elem (.field (stm i) "java/lang/String" "value" "[B") (.int (Int32.ofNat j))) (.int ((sByt.getD i []).getD j 0)))
theorem st_all : nrF.drop 54 = (List.range 27).flatMap stL := by decide +kernel
theorem st_in {i : Nat} (hi : i < 27) {w : Cond} (hw : w ∈ stL i) : w ∈ nrF := by
  refine List.mem_of_mem_drop (i := 54) ?_
  rw [st_all]
  exact List.mem_flatMap.mpr ⟨i, List.mem_range.mpr hi, hw⟩
theorem st_4 : ∀ i : Nat, i < 27 → sLen.getD i 0 < 2 ^ 31 := by decide +kernel
theorem st_5 : ∀ i : Nat, i < 27 → ∀ j : Nat, j < 27 → i ≠ j → sLen.getD i 0 ≠ sLen.getD j 0 ∨ ∃ k : Nat, k < sLen.getD i 0 ∧ (sByt.getD i []).getD k 0 ≠ (sByt.getD j []).getD k 0 := by
  have h : ((List.range 27).all (fun i => (List.range 27).all (fun j => decide (i = j) || (!decide (sLen.getD i 0 = sLen.getD j 0) || (List.range (sLen.getD i 0)).any (fun k => !decide ((sByt.getD i []).getD k 0 = (sByt.getD j []).getD k 0)))))) = true := by decide +kernel
  intro i hi j hj hij
  have h1 := List.all_eq_true.mp (List.all_eq_true.mp h i (List.mem_range.mpr hi)) j (List.mem_range.mpr hj)
  rw [decide_eq_false hij, Bool.false_or, Bool.or_eq_true] at h1
  rcases h1 with h1 | h1
  · left
    intro e
    rw [decide_eq_true e] at h1
    cases h1
  · right
    obtain ⟨k, hk, hk2⟩ := List.any_eq_true.mp h1
    refine ⟨k, List.mem_range.mp hk, fun e => ?_⟩
    rw [decide_eq_true e] at hk2
    cases hk2
theorem strK {args : Array Value} {s : State} {A : Nat → Prop} (hF : ∀ w ∈ nrF, w.before args s = true) (hA : ∀ a : Nat, a < s.heap.size → ¬ A a) : ∃ adK adV : Nat → Nat, vk_S 27 sLen sByt adK adV A s s.heap ∧ ∀ i : Nat, i < 27 → (stm i).eval args s none [] s = some (.ref (adK i)) := by
  have h0 : ∀ i : Nat, ∃ q : Nat × Nat, i < 27 → (stm i).eval args s none [] s = some (.ref q.1) ∧ va_O "java/lang/String" q.1 A s s.heap ∧ va_OF "java/lang/String" "coder" "B" (.int 0) q.1 A s s.heap ∧ va_OF "java/lang/String" "value" "[B" (.ref q.2) q.1 A s s.heap ∧ va_T .byte q.2 (sLen.getD i 0) (fun j => .int ((sByt.getD i []).getD j 0)) A s s.heap := by
    intro i
    by_cases hi : i < 27
    · have m1 := hF _ (st_in hi (w := Cond.exactly (stm i) "java/lang/String") List.mem_cons_self)
      have m2 := hF _ (st_in hi (w := Cond.eq (.field (stm i) "java/lang/String" "coder" "B") (.int 0)) (List.mem_of_getElem? (i := 1) rfl))
      have m3 := hF _ (st_in hi (w := Cond.arrayOf (.field (stm i) "java/lang/String" "value" "[B") .byte) (List.mem_of_getElem? (i := 2) rfl))
      have m4 := hF _ (st_in hi (w := Cond.eq (.length (.field (stm i) "java/lang/String" "value" "[B")) (.int (Int32.ofNat (sLen.getD i 0)))) (List.mem_of_getElem? (i := 3) rfl))
      have m5 : ∀ j : Nat, j < sLen.getD i 0 → (Cond.eq (.elem (.field (stm i) "java/lang/String" "value" "[B") (.int (Int32.ofNat j))) (.int ((sByt.getD i []).getD j 0))).before args s = true := fun j hj => hF _ (st_in hi (List.mem_cons_of_mem _ (List.mem_cons_of_mem _ (List.mem_cons_of_mem _ (List.mem_cons_of_mem _ (List.mem_map.mpr ⟨j, List.mem_range.mpr hj, rfl⟩))))))
      obtain ⟨a, c, cA, kA, q1, q2, q3, q4, q5, q6, -⟩ := Cond.exactly_spec (args := args) (first := s) (o := none) (s := s) (idx := []) (t := stm i) (cls := "java/lang/String") m1
      obtain ⟨t, ht, hT⟩ := va_Tof (f := fun j => .int ((sByt.getD i []).getD j 0)) (A := A) (st_4 i hi) m3 (va_eqt m4) (fun j hj => va_eqt (m5 j hj)) hA
      exact ⟨(a, t), fun _ => ⟨q1, ⟨cA, q3, q5, by rw [q6]; exact q2, hA a (Array.getElem?_eq_some_iff.mp q3).1⟩, vk_OFof q1 (va_eqt m2) hA, vk_OFof q1 ht hA, hT⟩⟩
    · exact ⟨(0, 0), fun h => absurd h hi⟩
  obtain ⟨ad, had⟩ := Classical.axiomOfChoice h0
  refine ⟨fun i => (ad i).1, fun i => (ad i).2, ⟨fun i hi => (had i hi).2, fun i j hi hj e => ?_⟩, fun i hi => (had i hi).1⟩
  by_cases hij : i = j
  · exact hij
  · exfalso
    obtain ⟨-, -, -, ⟨c1, k1, i1, f1, cell1, a1, a2, a3, a4, a5, a6⟩, ⟨d1, b1, b2, b3, b4, b5, b6, b7⟩⟩ := had i hi
    obtain ⟨-, -, -, ⟨c2, k2, i2, f2, cell2, a1', a2', a3', a4', a5', a6'⟩, ⟨d2, b1', b2', b3', b4', b5', b6', b7'⟩⟩ := had j hj
    have e' : (ad i).1 = (ad j).1 := e
    rw [e'] at a3
    cases a1.symm.trans a1'
    cases a3.symm.trans a3'
    have e2 : (ad i).2 = (ad j).2 := by
      have := Option.some.inj (a5.symm.trans a5')
      exact Value.ref.inj this
    rw [e2] at b1
    cases b1.symm.trans b1'
    have hlen : sLen.getD i 0 = sLen.getD j 0 := by
      have h1 : nI (sLen.getD i 0) = nI (sLen.getD j 0) := b5.symm.trans b5'
      have h2 := congrArg Int32.toInt h1
      rw [nI_toInt (st_4 i hi), nI_toInt (st_4 j hj)] at h2
      omega
    rcases st_5 i hi j hj hij with h | ⟨k, hk, h⟩
    · exact h hlen
    · have h1 := (b6 k hk).symm.trans (b6' k (by omega))
      exact h (Value.int.inj (Option.some.inj h1))
