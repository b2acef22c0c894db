theorem iw_X11 : Cond.instantiable (Rt 11) (nf 11) ∈ tG := inG (i := 124) (by decide +kernel) (by decide +kernel)
theorem iw_X12 : Cond.instantiable (Rt 12) (nf 12) ∈ tG := inG (i := 1391) (by decide +kernel) (by decide +kernel)
theorem nw_X11 : Cond.initialized (Rt 11) ∈ tG := inG (i := 98) (by decide +kernel) (by decide +kernel)
theorem ck_RL_8 : Cond.classLink RL 8 "CashBalls" ∈ tG := inG (i := 123) (by decide +kernel) (by decide +kernel)
theorem nw_X12 : Cond.initialized (Rt 12) ∈ tG := inG (i := 110) (by decide +kernel) (by decide +kernel)
theorem ck_RL_16 : Cond.classLink RL 16 "CashBallsModel" ∈ tG := inG (i := 1390) (by decide +kernel) (by decide +kernel)
theorem lk_RL_15 : Cond.methodLink RL 15 yX11_init ∈ tG := inG (i := 125) (by decide +kernel) (by decide +kernel)
theorem lk_RL_18 : Cond.methodLink RL 18 yX12_init ∈ tG := inG (i := 1392) (by decide +kernel) (by decide +kernel)
theorem ow_S : Cond.arrayOver (.object "CashBalls$State") ∈ lw_tbl := List.mem_of_getElem? (i := 366) (by decide +kernel)
theorem ow_M : Cond.arrayOver (.object "CashBalls$Mark") ∈ lw_tbl := List.mem_of_getElem? (i := 398) (by decide +kernel)
theorem ow_G : Cond.arrayOver (.array .int) ∈ lw_tbl := List.mem_of_getElem? (i := 406) (by decide +kernel)
theorem ls_1 : Cond.laysStatic "java/lang/String" "COMPACT_STRINGS" "Z" ∈ lw_tbl := List.mem_of_getElem? (i := 578) (by decide +kernel)
theorem ls_2 : Cond.laysStatic "jdk/internal/util/Preconditions" "SIOOBE_FORMATTER" "Ljava/util/function/BiFunction;" ∈ lw_tbl := List.mem_of_getElem? (i := 621) (by decide +kernel)
theorem ls_3 : Cond.laysStatic Bundle.tN "UNASSIGNED_STACK" Bundle.steD ∈ lw_tbl := List.mem_of_getElem? (i := 1350) (by decide +kernel)
theorem ls_4 : Cond.laysStatic Bundle.tN "SUPPRESSED_SENTINEL" Bundle.listD ∈ lw_tbl := List.mem_of_getElem? (i := 1352) (by decide +kernel)
theorem li_1 : Cond.initialized "java/lang/String" ∈ lw_tbl := List.mem_of_getElem? (i := 111) (by decide +kernel)
theorem li_2 : Cond.initialized "jdk/internal/util/Preconditions" ∈ lw_tbl := List.mem_of_getElem? (i := 115) (by decide +kernel)
theorem li_3 : Cond.initialized Bundle.tN ∈ lw_tbl := List.mem_of_getElem? (i := 119) (by decide +kernel)
theorem sr_w : (List.range 27).map (fun i => Cond.stringRef (sRef.getD i ("", 0, "", 0)).1 (sRef.getD i ("", 0, "", 0)).2.1 (sRef.getD i ("", 0, "", 0)).2.2.1) = [564, 655, 709, 717, 737, 751, 760, 761, 762, 763, 764, 765, 776, 781, 795, 812, 813, 814, 815, 816, 834, 835, 869, 870, 871, 872, 873].filterMap (fun i => lw_tbl[i]?) := by decide +kernel
/-! THE START: objects made, then the loop -/
def s00 : St := fun t _ x => if t = 600 ∧ 0 ≤ x ∧ x < 16 then x + 2 else 0
theorem s00_600 : ∀ j : Nat, j < 16 → go s00 600 0 j = (9, j + 2) := by
  intro j hj
  show (9, (s00 600 0 j).toNat) = _
  unfold s00
  rw [if_pos ⟨rfl, by omega, by omega⟩]
  congr 1
theorem s00_z (L : List (Nat × Nat)) : ZeL s00 L := fun q _ h6 x => if_neg (fun e => h6 e.1)
theorem pz_1 : ∀ q ∈ ww.1, q ∈ (ad1 w6 60 0).1 := by decide +kernel
theorem pz_2 : ∀ q ∈ (ad1 w6 60 0).1, q ∈ ww.1 := by decide +kernel
theorem pz_3 : ww.1.Nodup := by decide +kernel
theorem pz_5 : ∀ q ∈ (ad1 w6 60 0).1, ∀ j, rfp q.1 j = true → ww.2 q.1 q.2 j = (ad1 w6 60 0).2 q.1 q.2 j := by
  intro q _ j hj
  refine (if_neg (fun e => ?_)).symm
  rw [e] at hj
  cases hj
theorem pz_6 : (60, 0) ∉ w6.1 := by decide +kernel
/-! what the statement gives of the start -/
theorem arrK {args : Array Value} {s : State} {ty : FieldType} (h : (Cond.arrayClass ty).before args s = true) : ∃ cA : ClassId, ArrOfT s cA ty ∧ s.vm.findClass ("[" ++ ty.toString) = some cA := by
  obtain ⟨c, k, comp, h1, h2, h3⟩ := Cond.arrayClass_spec h
  exact ⟨c, fun n z => ⟨fun x q => (by cases q), k, h2, comp, h3⟩, h1⟩
theorem arrO {args : Array Value} {s : State} {C : String} (h : (Cond.arrayOver (.object C)).before args s = true) : ∃ cA : ClassId, ArrOfT s cA (.object C) ∧ va_RA s cA (.object C) := by
  obtain ⟨comp, c, k, h1, h2, h3, h4, h5⟩ := Cond.arrayOver_spec h
  exact ⟨c, fun n z => ⟨fun x q => (by cases q), k, h3, comp, h4⟩, k, comp, h3, h4, h1, h5⟩
theorem arrG {args : Array Value} {s : State} {c0 : ClassId} (h0 : s.vm.findClass "[I" = some c0) (h : (Cond.arrayOver (.array .int)).before args s = true) : ∃ (cA : ClassId) (k : Class), s.vm.classes[cA]? = some k ∧ k.kind = .array c0 (.array .int) ∧ s.vm.findClass "[[I" = some cA := by
  simp only [Cond.before, Cond.holds, Cond.value, beq_iff_eq] at h
  rw [show s.vm.findClass (FieldType.array FieldType.int).toString = some c0 from h0] at h
  simp only [Option.bind_some, Option.bind_eq_some_iff, Option.map_eq_some_iff] at h
  obtain ⟨c, hi, k, hk, hb⟩ := h
  obtain ⟨hlt, hp, -⟩ := Array.findIdx?_eq_some_iff_getElem.mp hi
  have hkk : s.vm.classes[c] = k := (Array.getElem?_eq_some_iff.mp hk).2
  rw [hkk] at hp
  cases hkind : k.kind with
  | array component ty =>
    rw [hkind] at hb hp
    simp at hb hp
    exact ⟨c, k, hk, by rw [hkind, hp, hb.1], hb.2⟩
  | _ => rw [hkind] at hb; simp at hb
theorem iw_all : ∀ t, t < 13 → Cond.instantiable (Rt t) (nf t) ∈ tG := by
  intro t ht
  match t, ht with
  | 0, _ => exact iw_X0
  | 1, _ => exact iw_X1
  | 2, _ => exact iw_X2
  | 3, _ => exact iw_X3
  | 4, _ => exact iw_X4
  | 5, _ => exact iw_X5
  | 6, _ => exact iw_X6
  | 7, _ => exact iw_X7
  | 8, _ => exact iw_X8
  | 9, _ => exact iw_X9
  | 10, _ => exact iw_X10
  | 11, _ => exact iw_X11
  | 12, _ => exact iw_X12
  | t + 13, h => omega
/-- the terms of the String constants -/
def stm (i : Nat) : Term := .string (sRef.getD i ("", 0, "", 0)).1 (sRef.getD i ("", 0, "", 0)).2.1
def nrF : List Cond := flatC (Jvm.Cond.and given_1 narrow_1)
theorem st_1 : ((List.range 27).all (fun i => decide (Cond.exactly (stm i) "java/lang/String" ∈ nrF) && (decide (Cond.eq (.field (stm i) "java/lang/String" "coder" "B") (.int 0) ∈ nrF) && (decide (Cond.arrayOf (.field (stm i) "java/lang/String" "value" "[B") .byte ∈ nrF) && decide (Cond.eq (.length (.field (stm i) "java/lang/String" "value" "[B")) (.int (Int32.ofNat (sLen.getD i 0))) ∈ nrF))))) = true := by decide +kernel
theorem st_2 : ((List.range 27).all (fun i => (List.range (sLen.getD i 0)).all (fun j => decide (Cond.eq (.elem (.field (stm i) "java/lang/String" "value" "[B") (.int (Int32.ofNat j))) (.int ((sByt.getD i []).getD j 0)) ∈ nrF)))) = true := by decide +kernel
theorem st_3 : ((List.range 27).all (fun i => (List.range 27).all (fun j => decide (i = j) || (decide (Cond.not (Cond.eq (stm i) (stm j)) ∈ nrF) || decide (Cond.not (Cond.eq (stm j) (stm i)) ∈ nrF))))) = true := by decide +kernel
theorem st_4 : ∀ i : Nat, i < 27 → sLen.getD i 0 < 2 ^ 31 := by decide +kernel
