/-! MAKING: worlds that grow. ad1: a cell more; rf1: a reference set. -/
def ad1 (B : Wd) (t i : Nat) : Wd := (B.1 ++ [(t, i)], B.2)
def rf1 (B : Wd) (t i j : Nat) : Wd := (B.1, fun a b c => if a = t ∧ b = i ∧ c = j then true else B.2 a b c)
def adu (ad : Ad) (t i q : Nat) : Ad := fun a b => if a = t ∧ b = i then q else ad a b
theorem adu_at {ad : Ad} {t i q : Nat} : adu ad t i q t i = q := if_pos ⟨rfl, rfl⟩
theorem adu_ne {ad : Ad} {t i q : Nat} {r : Nat × Nat} (h : r ≠ (t, i)) : adu ad t i q r.1 r.2 = ad r.1 r.2 := if_neg (fun e => h (Prod.ext e.1 e.2))
theorem skk_3 : ∀ t, t < 13 → ∀ j, j < nf t → skk t j = 0 ∨ skk t j = 1 ∨ skk t j = 2 := by decide +kernel
/-- a world B' over B: the old cells are as they were -/
theorem ce_grow {cs : Nat → ClassId} {B B' : Wd} {ad ad' : Ad} {σ : St} (hc : Clo B σ) (ha : ∀ r ∈ B.1, ad' r.1 r.2 = ad r.1 r.2) (hb : ∀ r ∈ B.1, ∀ j, B'.2 r.1 r.2 j = B.2 r.1 r.2 j) : ∀ r ∈ B.1, ce cs B' ad' σ r.1 r.2 = ce cs B ad σ r.1 r.2 := by
  intro r hr
  have hv : ∀ j, rfp r.1 j = true → rfv B' ad' σ r.1 r.2 j = rfv B ad σ r.1 r.2 j := by
    intro j hj
    unfold rfv
    rw [hb r hr j]
    by_cases h : B.2 r.1 r.2 j = true
    · rw [if_pos h, if_pos h, ha _ (hc r hr j hj h)]
    · rw [if_neg h, if_neg h]
  unfold ce
  by_cases ht : r.1 < 13
  · rw [if_pos ht, if_pos ht]
    congr 2
    apply List.map_congr_left
    intro j hj
    unfold sv
    rcases skk_3 _ ht j (List.mem_range.mp hj) with e | e | e
    · rw [e]; rfl
    · rw [e]; rfl
    · rw [e]
      show va_rf _ = va_rf _
      rw [hv j (by unfold rfp; rw [if_pos ht, e]; rfl)]
  · rw [if_neg ht, if_neg ht]
    congr 3
    unfold ca
    split
    · rfl
    · split
      · rename_i h4
        congr 4
        funext j
        exact hv j (by unfold rfp; rw [if_neg ht]; exact decide_eq_true h4)
      · rfl
theorem wl_grow {cs : Nat → ClassId} {B B' : Wd} {ad ad' : Ad} {σ : St} {l : List (Nat × Nat)} (hl : B'.1 = B.1 ++ l) (hc : Clo B σ) (ha : ∀ r ∈ B.1, ad' r.1 r.2 = ad r.1 r.2) (hb : ∀ r ∈ B.1, ∀ j, B'.2 r.1 r.2 j = B.2 r.1 r.2 j) : wl cs B' ad' σ = wl cs B ad σ ++ l.map (fun q => (ad' q.1 q.2, ce cs B' ad' σ q.1 q.2)) := by
  unfold wl
  rw [hl, List.map_append]
  congr 1
  apply List.map_congr_left
  intro r hr
  rw [ha r hr, ce_grow hc ha hb r hr]
theorem ext_add {B : Wd} {ad : Ad} {t i q : Nat} (hni : (t, i) ∉ B.1) (ho : ¬ Out (t, i)) : Ext B ad (ad1 B t i) (adu ad t i q) :=
  ⟨fun _ h => List.mem_append_left _ h, fun r hr => adu_ne (fun e => by subst e; exact hr.elim hni ho)⟩
theorem Rep_add {cs : Nat → ClassId} {D : va_G} {A : Nat → Prop} {B : Wd} {ad : Ad} {σ : St} {H H1 : Heap} {t i q : Nat} {e : va_E} (h : Rep cs D A B ad σ H) (hni : (t, i) ∉ B.1) (hu : ∀ j, B.2 t i j = false) (hP : va_P D vwCl (wl cs B ad σ ++ [(q, e)]) H1) (hD : va_D A (wl cs B ad σ ++ [(q, e)])) (he : e = ce cs (ad1 B t i) (adu ad t i q) σ t i) : Rep cs D A (ad1 B t i) (adu ad t i q) σ H1 := by
  have hw : wl cs (ad1 B t i) (adu ad t i q) σ = wl cs B ad σ ++ [(q, e)] := by
    rw [wl_grow (B := B) (B' := ad1 B t i) (ad := ad) (ad' := adu ad t i q) (l := [(t, i)]) rfl h.2.2.2 (fun r hr => adu_ne (fun e => by subst e; exact hni hr)) (fun _ _ _ => rfl)]
    rw [List.map_cons, List.map_nil, he]
    show _ ++ [(adu ad t i q t i, _)] = _
    rw [adu_at]
  rw [← hw] at hP hD
  refine ⟨hP, hD, h.2.2.1, fun r hr j g1 g2 => ?_⟩
  rcases List.mem_append.mp hr with h1 | h1
  · exact List.mem_append_left _ (h.2.2.2 r h1 j g1 g2)
  · rw [List.mem_singleton] at h1
    subst h1
    have g3 : B.2 t i j = true := g2
    rw [hu j] at g3
    cases g3
/-- kinds of types -/
def kq : FieldType → Nat
  | .int => 0
  | .boolean => 0
  | .long => 1
  | .object _ => 2
  | .array _ => 2
  | _ => 9
theorem kq_at : ∀ t, t < 13 → ∀ j, j < nf t → kq (tyT t j) = skk t j := by decide +kernel
theorem kq_0 {ty : FieldType} (h : kq ty = 0) : defaultValue ty = .int 0 := by cases ty <;> first | rfl | cases h
theorem kq_1 {ty : FieldType} (h : kq ty = 1) : defaultValue ty = .long 0 := by cases ty <;> first | rfl | cases h
theorem kq_2 {ty : FieldType} (h : kq ty = 2) : defaultValue ty = .null ∧ (∀ a, narrow ty (.ref a) = .ref a) ∧ ∀ a, fits ty (.ref a) = true := by cases ty <;> first | exact ⟨rfl, fun _ => rfl, fun _ => rfl⟩ | cases h
section Made
variable {Y : My} {d mc ms : Nat} {Q : Option AV → Wd → St → Prop} {B : Wd} {k n pc : Nat} {ls : List (Option AV)} {st : List AV} {σ : St}
theorem E_new {t i index : Nat} (hd : decode Y.2.1 pc = .ok (.new index, 3)) (ht : t < 13) (hcl : Cond.classLink Y.1.cls index (Rt t) ∈ tG) (hinst : Cond.instantiable (Rt t) (nf t) ∈ tG) (hini : Cond.initialized (Rt t) ∈ tG) (hni : (t, i) ∉ B.1) (hu : ∀ j, B.2 t i j = false) (hz : ∀ j : Nat, σ t i j = 0) (hk : k + 1 ≤ mc) (hn : n + nf t ≤ ms) (kk : E Y d mc ms Q (ad1 B t i) (k + 1) (n + nf t) (pc + 3) ls (vR t i :: st) σ) : E Y d mc ms Q B k n pc ls st σ := by
  intro p l e s m args below meth c H locs cs D A ad ad0 B0 lc sc hC hK hA hS hR hX hl hs
  have hts := hC.2.2.2.2.2.1
  refine va_new (ci := t) (fs := (List.range (nf t)).map (fun j => sv B ad σ t i j)) hC.1 hC.2.1 hts (cls_in ht) (tyT t) (cls_ty ht) hC.2.2.2.2.1 (hts _ hcl) (hts _ hinst) (hts _ hini) hK.1 hR.1 hR.2.1 hS hA (cls_at ht) (fun j hj => ?_) hk hn hd (fun q H1 hP hD hS1 => ?_)
  · have hq := kq_at t ht j hj
    unfold vp_V
    rw [List.getD_eq_getElem?_getD, fs_at hj, Option.getD_some]
    unfold sv
    rcases skk_3 t ht j hj with e | e | e
    · rw [e] at hq ⊢; rw [kq_0 hq, hz]; rfl
    · rw [e] at hq ⊢; rw [kq_1 hq, hz]; rfl
    · rw [e] at hq ⊢; rw [(kq_2 hq).1]; unfold rfv; rw [hu]; rfl
  · have hX1 : Ext B ad (ad1 B t i) (adu ad t i q) := ext_add hni (out_obj ht)
    refine kk p l e s m args below meth c H1 locs cs D A (adu ad t i q) ad0 B0 lc (.ref q :: sc) hC (hK.ext hX1) hA hS1 (Rep_add hR hni hu hP hD ?_) (hX.tr hX1) (hl.ext hX1) ⟨⟨Or.inl (List.mem_append_right _ (List.mem_singleton.mpr rfl)), by rw [adu_at]⟩, hs.ext hX1⟩
    rw [ce_obj ht]
    congr 2
    apply List.map_congr_left
    intro j hj
    unfold sv
    rcases skk_3 t ht j (List.mem_range.mp hj) with e | e | e
    · rw [e]; rfl
    · rw [e]; rfl
    · rw [e]
      show va_rf _ = va_rf _
      unfold rfv
      rw [show (ad1 B t i).2 t i j = B.2 t i j from rfl, hu j, if_neg (by decide), if_neg (by decide)]
theorem cs_of {cs : Nat → ClassId} {D : va_G} {s : State} {cA : ClassId} {ty : FieldType} {a : Nat} (hK : va_K D vwCl (tys cs) s) (h : va_K D vwCl (tys cs ++ [(cA, ty)]) s) (ha : (tys cs)[a]? = some (cs a, ty)) : cA = cs a := by
  have h1 := (h.2 (tys cs).length (cA, ty) (by rw [List.getElem?_append_right (Nat.le_refl _), Nat.sub_self]; rfl)).2
  have h2 := (hK.2 a _ ha).2
  unfold va_RA at h1 h2
  cases ty with
  | object C =>
    obtain ⟨-, -, -, -, -, h1⟩ := h1
    obtain ⟨-, -, -, -, -, h2⟩ := h2
    exact Option.some.inj (h1.symm.trans h2)
  | _ => exact Option.some.inj (h1.symm.trans h2)
theorem E_newI {t i b : Nat} {x : Int} {aty : ArrayType} {a : Nat} {ty : FieldType} (hd : decode Y.2.1 pc = .ok (.newarray aty, 2)) (hty : newarray.typeOf aty = ty) (h : shp t = (a, b)) (hx : x = (b : Int)) (hb : b ≤ 4000) (hcb : componentBytes ty ≤ 8) (htys : ∀ cs : Nat → ClassId, (tys cs)[a]? = some (cs a, ty)) (h1 : a ≠ 1) (h4 : a < 4) (hdv : defaultValue ty = .int 0) (hw : Cond.arrayClass ty ∈ tG) (hni : (t, i) ∉ B.1) (hu : ∀ j, B.2 t i j = false) (hz : ∀ j : Nat, σ t i j = 0) (hk : k + 1 ≤ mc) (hn : n + b ≤ ms) (kk : E Y d mc ms Q (ad1 B t i) (k + 1) (n + b) (pc + 2) ls (vR t i :: st) σ) : E Y d mc ms Q B k n pc ls (vI x :: st) σ := by
  subst hty
  intro p l e s m args below meth c H locs cs D A ad ad0 B0 lc sc hC hK hA hS hR hX hl hs
  obtain ⟨_, sc, rfl, ⟨x', rfl, rfl⟩, hs1⟩ := sr_1 hs
  have hts := hC.2.2.2.2.2.1
  have hN : x'.toNatClampNeg = b := by
    have := clamp32 (x := x') (by omega)
    omega
  refine va_newa (a0 := (b, .inl (fun j => Int32.ofInt (σ t i j)))) hC.1 hC.2.1 (hts _ hw) rfl hK.1 hR.1 hR.2.1 hS hA (fun cA => ?_) (fun hlt => ?_) hN ?_ hk hn hd (fun q cA H1 hK1 hP hD hS1 => ?_)
  · rw [hdv]
    have e : (fun j : Nat => Int32.ofInt (σ t i (j : Int))) = fun _ => 0 := by
      funext j
      rw [hz]
      rfl
    rw [e]
    rfl
  · have := (z32_lt x').mp hlt
    omega
  · exact Nat.le_trans (Nat.mul_le_mul hb hcb) (Nat.le_of_ble_eq_true rfl)
  · have hX1 : Ext B ad (ad1 B t i) (adu ad t i q) := ext_add hni (out_arr h (by omega))
    have hcA := cs_of hK.1 hK1 (htys cs)
    subst hcA
    refine kk p l e s m args below meth c H1 locs cs D A (adu ad t i q) ad0 B0 lc (.ref q :: sc) hC (hK.ext hX1) hA hS1 (Rep_add hR hni hu hP hD ?_) (hX.tr hX1) (hl.ext hX1) ⟨⟨Or.inl (List.mem_append_right _ (List.mem_singleton.mpr rfl)), by rw [adu_at]⟩, hs1.ext hX1⟩
    rw [ce_int h h1 h4]
theorem E_newL {t i b : Nat} {x : Int} (hd : decode Y.2.1 pc = .ok (.newarray .long, 2)) (h : shp t = (1, b)) (hx : x = (b : Int)) (hb : b ≤ 4000) (hw : Cond.arrayClass .long ∈ tG) (hni : (t, i) ∉ B.1) (hu : ∀ j, B.2 t i j = false) (hz : ∀ j : Nat, σ t i j = 0) (hk : k + 1 ≤ mc) (hn : n + b ≤ ms) (kk : E Y d mc ms Q (ad1 B t i) (k + 1) (n + b) (pc + 2) ls (vR t i :: st) σ) : E Y d mc ms Q B k n pc ls (vI x :: st) σ := by
  intro p l e s m args below meth c H locs cs D A ad ad0 B0 lc sc hC hK hA hS hR hX hl hs
  obtain ⟨_, sc, rfl, ⟨x', rfl, rfl⟩, hs1⟩ := sr_1 hs
  have hts := hC.2.2.2.2.2.1
  have hN : x'.toNatClampNeg = b := by
    have := clamp32 (x := x') (by omega)
    omega
  refine va_newa (a0 := (b, .inr (.inl (fun j => Int64.ofInt (σ t i j))))) hC.1 hC.2.1 (atype := .long) (hts _ hw) (ty := .long) rfl hK.1 hR.1 hR.2.1 hS hA (fun cA => ?_) (fun hlt => ?_) hN ?_ hk hn hd (fun q cA H1 hK1 hP hD hS1 => ?_)
  · have e : (fun j : Nat => Int64.ofInt (σ t i (j : Int))) = fun _ => 0 := by
      funext j
      rw [hz]
      rfl
    rw [e]
    rfl
  · have := (z32_lt x').mp hlt
    omega
  · exact Nat.le_trans (Nat.mul_le_mul hb (show componentBytes .long ≤ 8 by decide)) (Nat.le_of_ble_eq_true rfl)
  · have hX1 : Ext B ad (ad1 B t i) (adu ad t i q) := ext_add hni (out_arr h (by decide))
    have hcA := cs_of (a := 1) hK.1 hK1 rfl
    subst hcA
    refine kk p l e s m args below meth c H1 locs cs D A (adu ad t i q) ad0 B0 lc (.ref q :: sc) hC (hK.ext hX1) hA hS1 (Rep_add hR hni hu hP hD ?_) (hX.tr hX1) (hl.ext hX1) ⟨⟨Or.inl (List.mem_append_right _ (List.mem_singleton.mpr rfl)), by rw [adu_at]⟩, hs1.ext hX1⟩
    rw [ce_lng h]
/-- rows of objects -/
theorem E_newq {t i a b index : Nat} {x : Int} {C : String} (hd : decode Y.2.1 pc = .ok (.anewarray index, 3)) (h : shp t = (a, b)) (ha : a = 4 ∧ C = "CashBalls$State" ∨ a = 5 ∧ C = "CashBalls$Mark") (hx : x = (b : Int)) (hb : b ≤ 4000) (hcl : Cond.classLink Y.1.cls index C ∈ tG) (hni : (t, i) ∉ B.1) (hu : ∀ j, B.2 t i j = false) (hk : k + 1 ≤ mc) (hn : n + b ≤ ms) (kk : E Y d mc ms Q (ad1 B t i) (k + 1) (n + b) (pc + 3) ls (vR t i :: st) σ) : E Y d mc ms Q B k n pc ls (vI x :: st) σ := by
  intro p l e s m args below meth c H locs cs D A ad ad0 B0 lc sc hC hK hA hS hR hX hl hs
  obtain ⟨_, sc, rfl, ⟨x', rfl, rfl⟩, hs1⟩ := sr_1 hs
  have hts := hC.2.2.2.2.2.1
  have hN : x'.toNatClampNeg = b := by
    have := clamp32 (x := x') (by omega)
    omega
  have hAO : va_AO C s := by
    rcases ha with ⟨-, rfl⟩ | ⟨-, rfl⟩
    · exact hK.2.2.2.2.2.2.2.1
    · exact hK.2.2.2.2.2.2.2.2.1
  have htys : (tys cs)[a]? = some (cs a, .object C) := by
    rcases ha with ⟨rfl, rfl⟩ | ⟨rfl, rfl⟩ <;> rfl
  have h4 : 4 ≤ a := by omega
  have h9 : a < 99 := by omega
  refine va_newq hC.1 hC.2.1 hC.2.2.2.2.1 (hts _ hcl) hAO hK.1 hR.1 hR.2.1 hS hA (fun hlt => ?_) hN (by omega) hk hn hd (fun q cA H1 hK1 hP hD hS1 => ?_)
  · have := (z32_lt x').mp hlt
    omega
  · have hX1 : Ext B ad (ad1 B t i) (adu ad t i q) := ext_add hni (out_arr h (by omega))
    have hcA := cs_of hK.1 hK1 htys
    subst hcA
    refine kk p l e s m args below meth c H1 locs cs D A (adu ad t i q) ad0 B0 lc (.ref q :: sc) hC (hK.ext hX1) hA hS1 (Rep_add hR hni hu hP hD ?_) (hX.tr hX1) (hl.ext hX1) ⟨⟨Or.inl (List.mem_append_right _ (List.mem_singleton.mpr rfl)), by rw [adu_at]⟩, hs1.ext hX1⟩
    rw [ce_ref h h4 h9]
    congr 7
    funext j
    unfold rfv
    rw [show (ad1 B t i).2 t i j = B.2 t i j from rfl, hu j, if_neg (by decide)]
/-- a reference more is set -/
theorem rf_ce {cs : Nat → ClassId} {ad : Ad} {t i j : Nat} {r : Nat × Nat} (h : r ≠ (t, i)) : ce cs (rf1 B t i j) ad σ r.1 r.2 = ce cs B ad σ r.1 r.2 := by
  have hv : ∀ x, rfv (rf1 B t i j) ad σ r.1 r.2 x = rfv B ad σ r.1 r.2 x := by
    intro x
    have e : (rf1 B t i j).2 r.1 r.2 x = B.2 r.1 r.2 x := if_neg (fun e : r.1 = t ∧ r.2 = i ∧ x = j => h (Prod.ext e.1 e.2.1))
    unfold rfv
    rw [e]
  unfold ce ca sv
  simp only [hv]
theorem rf_wl {cs : Nat → ClassId} {A : Nat → Prop} {ad : Ad} {t i j q : Nat} (hD : va_D A (wl cs B ad σ)) (hk : B.1[q]? = some (t, i)) : (wl cs B ad σ).set q (ad t i, ce cs (rf1 B t i j) ad σ t i) = wl cs (rf1 B t i j) ad σ := by
  apply List.ext_getElem?
  intro x
  rw [List.getElem?_set]
  have hql : q < B.1.length := (List.getElem?_eq_some_iff.mp hk).1
  have hB : (rf1 B t i j).1 = B.1 := rfl
  by_cases hi : q = x
  · subst hi
    rw [if_pos rfl, if_pos (by rw [wl, List.length_map]; exact hql), wl, hB, List.getElem?_map, hk]
    rfl
  · rw [if_neg hi, wl, wl, hB, List.getElem?_map, List.getElem?_map]
    cases h : B.1[x]? with
    | none => rfl
    | some r =>
      have hne : r ≠ (t, i) := by
        intro e
        subst e
        exact hi (hD.1 q x _ _ (by rw [wl, List.getElem?_map, hk]; rfl) (by rw [wl, List.getElem?_map, h]; rfl) rfl)
      simp only [Option.map_some, rf_ce hne]
theorem Rep_rf {cs : Nat → ClassId} {D : va_G} {A : Nat → Prop} {ad : Ad} {H H1 : Heap} {t i j q : Nat} {e : va_E} {r : Nat × Nat} (h : Rep cs D A B ad σ H) (hk : B.1[q]? = some (t, i)) (hg : go σ t i j = r) (hr : r ∈ B.1) (hP : va_P D vwCl ((wl cs B ad σ).set q (ad t i, e)) H1) (hD : va_D A ((wl cs B ad σ).set q (ad t i, e))) (he : e = ce cs (rf1 B t i j) ad σ t i) : Rep cs D A (rf1 B t i j) ad σ H1 := by
  subst he
  rw [rf_wl h.2.1 hk] at hP hD
  refine ⟨hP, hD, h.2.2.1, fun q' hq j' g1 g2 => ?_⟩
  by_cases e : q'.1 = t ∧ q'.2 = i ∧ j' = j
  · obtain ⟨e1, e2, e3⟩ := e
    rw [e1, e2, e3, hg]
    exact hr
  · refine h.2.2.2 q' hq j' g1 ?_
    have g3 : (if q'.1 = t ∧ q'.2 = i ∧ j' = j then true else B.2 q'.1 q'.2 j') = true := g2
    rw [if_neg e] at g3
    exact g3
theorem rf_ext {ad : Ad} {t i j : Nat} : Ext B ad (rf1 B t i j) ad := ⟨fun _ h => h, fun _ _ => rfl⟩
def ou (t : Nat) : Bool := t == 50 || t == 51 || t == 52
theorem ou_no {t i : Nat} (h : ou t = false) : ¬ Out (t, i) := by
  intro q
  unfold ou at h
  rcases q with q | q | q <;> (simp only at q; subst q; cases h)
theorem E_putr {t i j index t' i' : Nat} (hd : decode Y.2.1 pc = .ok (.putfield index, 3)) (hf : FL Y.1.cls index t j) (hk : skk t j = 2) (hfin : (Tt t j).2.2.2 = true) (hdc : (Tt t j).1 = Y.1.cls) (hin : Y.1.name = "<init>") (hg : go σ t i j = (t', i')) (ho : ou t' = false) (kk : E Y d mc ms Q (rf1 B t i j) k n (pc + 3) ls st σ) : E Y d mc ms Q B k n pc ls (vR t' i' :: vR t i :: st) σ := by
  intro p l e s m args below meth c H locs cs D A ad ad0 B0 lc sc hC hK hA hS hR hX hl hs
  obtain ⟨hf, ht, hj⟩ := hf
  obtain ⟨_, sc, rfl, ⟨hv, rfl⟩, hs1⟩ := sr_1 hs
  obtain ⟨_, sc, rfl, ⟨hm, rfl⟩, hs2⟩ := sr_1 hs1
  have hv := hv.resolve_right (ou_no ho)
  obtain ⟨q, hq1, hq2⟩ := wl_at (cs := cs) (ad := ad) (σ := σ) (hm.resolve_right (out_obj ht))
  have hq := kq_2 ((kq_at t ht j hj).trans hk)
  refine va_putF (ci := t) (ty := tyT t j) hC.1 hC.2.1 hC.2.2.2.2.2.1 (cls_in ht) (tyT t) (cls_ty ht) (cls_nm ht) hC.2.2.2.2.1 hK.1 hR.1 hR.2.1 hS q (by rw [hq2, ce_obj ht]) (cls_at ht) j hj (hC.2.2.2.2.2.1 _ hf) (fun _ h => h) hfin (hC.2.2.2.2.2.2.2.1.trans hin) hdc (cls_ty ht j hj) (hq.2.1 _) (hq.2.2 _) (by simpa using hj) hd (fun H1 locs1 hP1 hD1 hS1 => ?_)
  have hX1 : Ext B ad (rf1 B t i j) ad := rf_ext
  refine kk p l e s m args below meth c H1 locs1 cs D A ad ad0 B0 lc sc hC (hK.ext hX1) hA hS1 (Rep_rf hR hq1 hg hv hP1 hD1 ?_) (hX.tr hX1) (hl.ext hX1) (hs2.ext hX1)
  rw [ce_obj ht]
  congr 2
  apply List.ext_getElem?
  intro x
  rw [List.getElem?_set, List.getElem?_map, List.getElem?_map, List.length_map, List.length_range]
  by_cases e : j = x
  · subst e
    rw [if_pos rfl, if_pos hj, List.getElem?_range hj]
    show some _ = some (sv (rf1 B t i j) ad σ t i j)
    congr 1
    unfold sv rfv
    rw [hk, hg]
    show _ = va_rf (if (rf1 B t i j).2 t i j = true then _ else _)
    rw [show (rf1 B t i j).2 t i j = true from if_pos ⟨rfl, rfl, rfl⟩]
    rfl
  · rw [if_neg e]
    by_cases hx : x < nf t
    · rw [List.getElem?_range hx]
      show some (sv B ad σ t i x) = some (sv (rf1 B t i j) ad σ t i x)
      congr 1
      unfold sv rfv
      have : (rf1 B t i j).2 t i x = B.2 t i x := if_neg (fun h => e h.2.2.symm)
      rw [this]
    · rw [List.getElem?_eq_none (by rw [List.length_range]; omega)]
      rfl
/-- an object put into a row of objects that is being made -/
theorem E_mast {t i a b t' i' : Nat} {x : Int} (hd : decode Y.2.1 pc = .ok (.aastore, 1)) (h : shp t = (a, b)) (ha : a = 4 ∧ t' = 9 ∨ a = 5 ∧ t' = 4) (h0 : 0 ≤ x) (h1 : x < (b : Int)) (hg : go σ t i x.toNat = (t', i')) (kk : E Y d mc ms Q (rf1 B t i x.toNat) k n (pc + 1) ls st σ) : E Y d mc ms Q B k n pc ls (vR t' i' :: vI x :: vR t i :: st) σ := by
  intro p l e s m args below meth c H locs cs D A ad ad0 B0 lc sc hC hK hA hS hR hX hl hs
  obtain ⟨_, sc, rfl, ⟨hmv, rfl⟩, hs0⟩ := sr_1 hs
  obtain ⟨_, sc, rfl, ⟨x', rfl, rfl⟩, hs1⟩ := sr_1 hs0
  obtain ⟨_, sc, rfl, ⟨hm, rfl⟩, hs2⟩ := sr_1 hs1
  have ht' : t' < 13 := by omega
  have hmv := hmv.resolve_right (out_obj ht')
  have hm := hm.resolve_right (out_arr h (by omega))
  obtain ⟨q, hq1, hq2⟩ := wl_at (cs := cs) (ad := ad) (σ := σ) hm
  obtain ⟨qv, hv1, hv2⟩ := wl_at (cs := cs) (ad := ad) (σ := σ) hmv
  have hc2 := clamp32 h0
  have htys : (tys cs)[a]? = some (cs a, .object (Rt t')) := by
    rcases ha with ⟨rfl, rfl⟩ | ⟨rfl, rfl⟩ <;> rfl
  refine va_astq hC.1 hC.2.1 hK.1 hR.1 hR.2.1 hS q a qv t' (cA := cs a) (r := (Rt t', Tt t', nf t')) (n := b) (v := ad t' i') (f := fun j => rfv B ad σ t i j) (by rw [hq2, ce_ref h (by omega) (by omega)]) htys (by rw [hv2, ce_obj ht']) (cls_at ht') (vin h0 h1) hd (fun H1 locs1 hP1 hD1 hS1 => ?_)
  have hX1 : Ext B ad (rf1 B t i x'.toInt.toNat) ad := rf_ext
  refine kk p l e s m args below meth c H1 locs1 cs D A ad ad0 B0 lc sc hC (hK.ext hX1) hA hS1 (Rep_rf hR hq1 hg hmv hP1 hD1 ?_) (hX.tr hX1) (hl.ext hX1) (hs2.ext hX1)
  rw [ce_ref h (by omega) (by omega)]
  congr 7
  funext j
  unfold va_up
  by_cases e : j = x'.toNatClampNeg
  · subst e
    rw [if_pos rfl]
    unfold rfv
    rw [show x'.toNatClampNeg = x'.toInt.toNat from rfl, hg]
    exact (if_pos (if_pos ⟨rfl, rfl, rfl⟩)).symm
  · rw [if_neg e]
    unfold rfv
    rw [show (rf1 B t i x'.toInt.toNat).2 t i j = B.2 t i j from if_neg (fun q => e q.2.2)]
theorem oi_1 : Cond.instanceMethod Lib.objectInit ∈ tG := inG (i := 129) (by decide +kernel) (by decide +kernel)
theorem oi_2 : Cond.code Lib.objectInit ⟨#[0xb1]⟩ 1 none ∈ tG := inG (i := 130) (by decide +kernel) (by decide +kernel)
theorem E_oini {t i index : Nat} (hd : decode Y.2.1 pc = .ok (.invokespecial index, 3)) (hL : Cond.methodLink Y.1.cls index Lib.objectInit ∈ tG) (hdd : 1 ≤ d) (hst : cat st ≤ 8) (kk : E Y d mc ms Q B k n (pc + 3) ls st σ) : E Y d mc ms Q B k n pc ls (vR t i :: st) σ := by
  refine E_lift ?_ kk
  intro p l e s m args below meth c H locs cs D A ad Z lc sc hC hK hS hR hl hs kk
  obtain ⟨_, sc, rfl, ⟨hm, rfl⟩, hs1⟩ := sr_1 hs
  have hts := hC.2.2.2.2.2.1
  have hcat := cat_sr hs1
  refine W.objInit hC.1 hC.2.1 hC.2.2.2.2.1 (hts _ hL) (hts _ oi_1) (hts _ oi_2) rfl (hl.1.trans hC.2.2.2.1.symm) rfl hd hdd ?_ ?_
  · show 2 * 0 + (sc.map fun v => v.category).sum + 12 ≤ 64 * d
    rw [hcat]
    omega
  · exact kk H locs lc sc hS hR hl hs1
/-- the same world, its cells told in another order -/
theorem Rep_perm {cs : Nat → ClassId} {D : va_G} {A : Nat → Prop} {B B' : Wd} {ad : Ad} {H : Heap} (h : Rep cs D A B ad σ H) (h1 : ∀ q ∈ B'.1, q ∈ B.1) (h2 : ∀ q ∈ B.1, q ∈ B'.1) (hn : B'.1.Nodup) (hb : ∀ q ∈ B.1, ∀ j, rfp q.1 j = true → B'.2 q.1 q.2 j = B.2 q.1 q.2 j) : Rep cs D A B' ad σ H := by
  have hce : ∀ q ∈ B.1, ce cs B' ad σ q.1 q.2 = ce cs B ad σ q.1 q.2 := by
    intro r hr
    have hv : ∀ j, rfp r.1 j = true → rfv B' ad σ r.1 r.2 j = rfv B ad σ r.1 r.2 j := by
      intro j hj
      unfold rfv
      rw [hb r hr j hj]
    unfold ce
    by_cases ht : r.1 < 13
    · rw [if_pos ht, if_pos ht]
      congr 2
      apply List.map_congr_left
      intro j hj
      unfold sv
      rcases skk_3 _ ht j (List.mem_range.mp hj) with e | e | e
      · rw [e]; rfl
      · rw [e]; rfl
      · rw [e]
        show va_rf _ = va_rf _
        rw [hv j (by unfold rfp; rw [if_pos ht, e]; rfl)]
    · rw [if_neg ht, if_neg ht]
      congr 3
      unfold ca
      split
      · rfl
      · split
        · rename_i h4
          congr 4
          funext j
          exact hv j (by unfold rfp; rw [if_neg ht]; exact decide_eq_true h4)
        · rfl
  have hat : ∀ (k : Nat) (x : Nat × va_E), (wl cs B' ad σ)[k]? = some x → ∃ q : Nat × Nat, B'.1[k]? = some q ∧ ∃ k' : Nat, B.1[k']? = some q ∧ (wl cs B ad σ)[k']? = some x := by
    intro k x hx
    rw [wl, List.getElem?_map, Option.map_eq_some_iff] at hx
    obtain ⟨q, hq, rfl⟩ := hx
    have hqB := h1 q (List.mem_of_getElem? hq)
    obtain ⟨k', hk1, hk2⟩ := wl_at (cs := cs) (ad := ad) (σ := σ) hqB
    refine ⟨q, hq, k', hk1, ?_⟩
    rw [hk2, hce q hqB]
  refine ⟨fun k x hx => ?_, ⟨fun i j x y hx hy e => ?_, fun k x hx => ?_⟩, h.2.2.1, fun q hq j g1 g2 => ?_⟩
  · obtain ⟨q, -, k', -, hk⟩ := hat k x hx
    exact h.1 k' x hk
  · obtain ⟨q, hq, k1, hk1, hx1⟩ := hat i x hx
    obtain ⟨r, hr, k2, hk2, hy2⟩ := hat j y hy
    have := h.2.1.1 k1 k2 x y hx1 hy2 e
    subst this
    have hqr : q = r := Option.some.inj (hk1.symm.trans hk2)
    subst hqr
    have hil := (List.getElem?_eq_some_iff.mp hq)
    have hjl := (List.getElem?_eq_some_iff.mp hr)
    obtain ⟨hi1, hi2⟩ := hil
    obtain ⟨hj1, hj2⟩ := hjl
    rcases Nat.lt_trichotomy i j with hlt | heq | hgt
    · exact absurd (hi2.trans hj2.symm) (List.pairwise_iff_getElem.mp hn i j hi1 hj1 hlt)
    · exact heq
    · exact absurd (hj2.trans hi2.symm) (List.pairwise_iff_getElem.mp hn j i hj1 hi1 hgt)
  · obtain ⟨q, -, k', -, hk⟩ := hat k x hx
    exact h.2.1.2 k' x hk
  · have hqB := h1 q hq
    rw [hb q hqB j g1] at g2
    exact h2 _ (h.2.2.2 q hqB j g1 g2)
theorem E_perm {B' : Wd} (h1 : ∀ q ∈ B'.1, q ∈ B.1) (h2 : ∀ q ∈ B.1, q ∈ B'.1) (hn : B'.1.Nodup) (hb : ∀ q ∈ B.1, ∀ j, rfp q.1 j = true → B'.2 q.1 q.2 j = B.2 q.1 q.2 j) (kk : E Y d mc ms Q B' k n pc ls st σ) : E Y d mc ms Q B k n pc ls st σ := by
  intro p l e s m args below meth c H locs cs D A ad ad0 B0 lc sc hC hK hA hS hR hX hl hs
  have hX1 : Ext B ad B' ad := ⟨h2, fun _ _ => rfl⟩
  exact kk p l e s m args below meth c H locs cs D A ad ad0 B0 lc sc hC hK hA hS (Rep_perm hR h1 h2 hn hb) (hX.tr hX1) (hl.ext hX1) (hs.ext hX1)
end Made
/-! what is not made yet -/
def Fre (B : Wd) (t i : Nat) : Prop := (t, i) ∉ B.1 ∧ ∀ j, B.2 t i j = false
def FrL (B : Wd) (L : List (Nat × Nat)) : Prop := ∀ q ∈ L, Fre B q.1 q.2
def nn (L : List (Nat × Nat)) (t i : Nat) : Bool := L.all (fun q => !(Nat.beq q.1 t && Nat.beq q.2 i))
def rowsG (t N : Nat) : List (Nat × Nat) := (List.range N).map (fun j => (t + 50, j))
def adm (B : Wd) (t N : Nat) : Wd := (B.1 ++ (t, 0) :: rowsG t N, fun a b c => if a = t ∧ b = 0 ∧ c < N then true else B.2 a b c)
/-- zeros all over, but for the row of the past, which tells where its States lie -/
def ZeL (σ : St) (L : List (Nat × Nat)) : Prop := ∀ q ∈ L, q.1 ≠ 600 → ∀ x : Int, σ q.1 q.2 x = 0
theorem nn_ne {L : List (Nat × Nat)} {t i : Nat} (h : nn L t i = true) : ∀ q ∈ L, q ≠ (t, i) := by
  intro q hq e
  subst e
  have h1 := List.all_eq_true.mp h _ hq
  simp at h1
theorem Fre_ad1 {B : Wd} {t i a b : Nat} (h : Fre B a b) (hn : (a, b) ≠ (t, i)) : Fre (ad1 B t i) a b :=
  ⟨fun q => (List.mem_append.mp q).elim h.1 (fun q => hn (List.mem_singleton.mp q)), h.2⟩
theorem Fre_rf1 {B : Wd} {t i j a b : Nat} (h : Fre B a b) (hn : (a, b) ≠ (t, i)) : Fre (rf1 B t i j) a b :=
  ⟨h.1, fun x => (if_neg (fun e : a = t ∧ b = i ∧ x = j => hn (Prod.ext e.1 e.2.1))).trans (h.2 x)⟩
theorem Fre_adm {B : Wd} {t N a b : Nat} (h : Fre B a b) (hn : (a, b) ≠ (t, 0)) (hr : (a, b) ∉ rowsG t N) : Fre (adm B t N) a b :=
  ⟨fun q => (List.mem_append.mp q).elim h.1 (fun q => (List.mem_cons.mp q).elim hn hr), fun x => (if_neg (fun e : a = t ∧ b = 0 ∧ x < N => hn (Prod.ext e.1 e.2.1))).trans (h.2 x)⟩
theorem FrL.hd {B : Wd} {q : Nat × Nat} {L : List (Nat × Nat)} (h : FrL B (q :: L)) : Fre B q.1 q.2 := h q List.mem_cons_self
theorem FrL.tl {B : Wd} {q : Nat × Nat} {L : List (Nat × Nat)} (h : FrL B (q :: L)) : FrL B L := fun r hr => h r (List.mem_cons_of_mem _ hr)
theorem FrL.app {B : Wd} {L M : List (Nat × Nat)} (h : FrL B (L ++ M)) : FrL B L ∧ FrL B M := ⟨fun q hq => h q (List.mem_append_left _ hq), fun q hq => h q (List.mem_append_right _ hq)⟩
theorem FrL_ad1 {B : Wd} {L : List (Nat × Nat)} {t i : Nat} (h : FrL B L) (hn : nn L t i = true) : FrL (ad1 B t i) L := fun q hq => Fre_ad1 (h q hq) (nn_ne hn q hq)
theorem FrL_rf1 {B : Wd} {L : List (Nat × Nat)} {t i j : Nat} (h : FrL B L) (hn : nn L t i = true) : FrL (rf1 B t i j) L := fun q hq => Fre_rf1 (h q hq) (nn_ne hn q hq)
theorem FrL_adm {B : Wd} {L : List (Nat × Nat)} {t N : Nat} (h : FrL B L) (hn : nn L t 0 = true) (hr : (rowsG t N).all (fun r => nn L r.1 r.2) = true) : FrL (adm B t N) L := fun q hq => Fre_adm (h q hq) (nn_ne hn q hq) (fun hm => nn_ne (List.all_eq_true.mp hr q hm) q hq rfl)
theorem ZeL.hd {σ : St} {q : Nat × Nat} {L : List (Nat × Nat)} (h : ZeL σ (q :: L)) (hne : Nat.beq q.1 600 = false := by rfl) : ∀ j : Nat, σ q.1 q.2 j = 0 := fun j => h q List.mem_cons_self (fun e => by rw [e] at hne; cases hne) j
theorem ZeL.tl {σ : St} {q : Nat × Nat} {L : List (Nat × Nat)} (h : ZeL σ (q :: L)) : ZeL σ L := fun r hr => h r (List.mem_cons_of_mem _ hr)
theorem ZeL.app {σ : St} {L M : List (Nat × Nat)} (h : ZeL σ (L ++ M)) : ZeL σ L ∧ ZeL σ M := ⟨fun q hq => h q (List.mem_append_left _ hq), fun q hq => h q (List.mem_append_right _ hq)⟩
theorem ZeL_up {σ : St} {L : List (Nat × Nat)} {t i : Nat} {x v : Int} (h : ZeL σ L) (hn : nn L t i = true) : ZeL (up σ t i x v) L := fun q hq h6 y => (up_ne (nn_ne hn q hq)).trans (h q hq h6 y)
theorem up_same {σ : St} {t i : Nat} {x v : Int} (h : σ t i x = v) : up σ t i x v = σ := by
  funext a b c
  unfold up
  split
  · rename_i e
    rw [e.1, e.2.1, e.2.2, h]
  · rfl
/-- references are set within their bounds alone -/
def bnd (t : Nat) : Nat := if t < 13 then nf t else (shp t).2
def BdW (B : Wd) : Prop := ∀ t i j, B.2 t i j = true → j < bnd t
theorem BdW_ad1 {B : Wd} {t i : Nat} (h : BdW B) : BdW (ad1 B t i) := h
theorem BdW_rf1 {B : Wd} {t i j : Nat} (h : BdW B) (hj : j < bnd t) : BdW (rf1 B t i j) := by
  intro a b c q
  have q2 : (if a = t ∧ b = i ∧ c = j then true else B.2 a b c) = true := q
  split at q2
  · rename_i e
    rw [e.1, e.2.2]
    exact hj
  · exact h a b c q2
theorem BdW_adm {B : Wd} {t N : Nat} (h : BdW B) (hj : N ≤ bnd t) : BdW (adm B t N) := by
  intro a b c q
  have q2 : (if a = t ∧ b = 0 ∧ c < N then true else B.2 a b c) = true := q
  split at q2
  · rename_i e
    rw [e.1]
    exact Nat.lt_of_lt_of_le e.2.2 hj
  · exact h a b c q2
section Made2
variable {Y : My} {d mc ms : Nat} {Q : Option AV → Wd → St → Prop} {B : Wd} {k n pc : Nat} {ls : List (Option AV)} {st : List AV} {σ : St}
theorem E_puti0 {t i j index : Nat} (hd : decode Y.2.1 pc = .ok (.putfield index, 3)) (hf : FL Y.1.cls index t j) (hk : skk t j = 0) (hfin : (Tt t j).2.2.2 = false) (hty : tyT t j = .int) (h0 : σ t i j = 0) (kk : E Y d mc ms Q B k n (pc + 3) ls st σ) : E Y d mc ms Q B k n pc ls (vI 0 :: vR t i :: st) σ := E_puti hd hf hk hfin hty (by rw [up_same h0]; exact kk)
theorem E_putz0 {t i j index : Nat} (hd : decode Y.2.1 pc = .ok (.putfield index, 3)) (hf : FL Y.1.cls index t j) (hk : skk t j = 0) (hfin : (Tt t j).2.2.2 = false) (hty : tyT t j = .boolean) (h0 : σ t i j = 0) (kk : E Y d mc ms Q B k n (pc + 3) ls st σ) : E Y d mc ms Q B k n pc ls (vI 0 :: vR t i :: st) σ := E_putz hd hf hk hfin hty (Or.inl rfl) (by rw [up_same h0]; exact kk)
theorem vaD_app {A : Nat → Prop} {ws es : va_W} {h : Nat} (hD : va_D A ws) (hl : ∀ (k : Nat) (x : Nat × va_E), ws[k]? = some x → x.1 < h) (he : ∀ (k : Nat) (x : Nat × va_E), es[k]? = some x → x.1 = h + k ∧ A x.1) : va_D A (ws ++ es) := by
  have key : ∀ (k : Nat) (x : Nat × va_E), (ws ++ es)[k]? = some x → (ws[k]? = some x ∧ k < ws.length) ∨ (es[k - ws.length]? = some x ∧ ws.length ≤ k) := by
    intro k x hx
    rcases Nat.lt_or_ge k ws.length with q | q
    · rw [List.getElem?_append_left q] at hx
      exact Or.inl ⟨hx, q⟩
    · rw [List.getElem?_append_right q] at hx
      exact Or.inr ⟨hx, q⟩
  refine ⟨fun a b x y hx hy e => ?_, fun k x hx => ?_⟩
  · rcases key a x hx with ⟨h1, q1⟩ | ⟨h1, q1⟩ <;> rcases key b y hy with ⟨h2, q2⟩ | ⟨h2, q2⟩
    · exact hD.1 a b x y h1 h2 e
    · have := hl a x h1; have := (he _ y h2).1; omega
    · have := hl b y h2; have := (he _ x h1).1; omega
    · have := (he _ x h1).1; have := (he _ y h2).1; omega
  · rcases key k x hx with ⟨h1, -⟩ | ⟨h1, -⟩
    · exact hD.2 k x h1
    · exact (he _ x h1).2
theorem rowsG_at {t N k : Nat} {q : Nat × Nat} (h : (rowsG t N)[k]? = some q) : k < N ∧ q = (t + 50, k) := by
  unfold rowsG at h
  rw [List.getElem?_map, Option.map_eq_some_iff] at h
  obtain ⟨a, ha, rfl⟩ := h
  rcases Nat.lt_or_ge k N with q | q
  · rw [List.getElem?_range q] at ha
    cases ha
    exact ⟨q, rfl⟩
  · rw [List.getElem?_eq_none (by rw [List.length_range]; exact q)] at ha
    cases ha
theorem rowsG_in {t N j : Nat} (h : j < N) : (t + 50, j) ∈ rowsG t N := List.mem_map.mpr ⟨j, List.mem_range.mpr h, rfl⟩
def adg (ad : Ad) (t N h : Nat) : Ad := fun a b => if a = t ∧ b = 0 then h else if a = t + 50 ∧ b < N then h + 1 + b else ad a b
theorem adg_0 {ad : Ad} {t N h : Nat} : adg ad t N h t 0 = h := if_pos ⟨rfl, rfl⟩
theorem adg_1 {ad : Ad} {t N h j : Nat} (hj : j < N) : adg ad t N h (t + 50) j = h + 1 + j := by
  unfold adg
  rw [if_neg (by omega), if_pos ⟨rfl, hj⟩]
theorem adg_2 {ad : Ad} {t N h : Nat} {r : Nat × Nat} (h0 : r ≠ (t, 0)) (h1 : r ∉ rowsG t N) : adg ad t N h r.1 r.2 = ad r.1 r.2 := by
  unfold adg
  rw [if_neg (fun e => h0 (Prod.ext e.1 e.2)), if_neg (fun e => h1 (by have := rowsG_in (t := t) e.2; rwa [← e.1] at this))]
theorem E_multi {t index N M : Nat} {x y : Int} (hd : decode Y.2.1 pc = .ok (.multianewarray index 2, 4)) (h : shp t = (6, N)) (h2 : shp (t + 50) = (0, M)) (hx : x = (N : Int)) (hy : y = (M : Int)) (hN : N ≤ 7) (hM : M ≤ 61) (hcl : Cond.classLink Y.1.cls index "[[I" ∈ tG) (hgo : ∀ j, go σ t 0 j = (t + 50, j)) (hF : FrL B ((t, 0) :: rowsG t N)) (hZ : ZeL σ (rowsG t N)) (hk : k + (1 + N) ≤ mc) (hn : n + (N + N * M) ≤ ms) (kk : E Y d mc ms Q (adm B t N) (k + (1 + N)) (n + (N + N * M)) (pc + 4) ls (vR t 0 :: st) σ) : E Y d mc ms Q B k n pc ls (vI y :: vI x :: st) σ := by
  intro p l e s m args below meth c H locs cs D A ad ad0 B0 lc sc hC hK hA hS hR hX hl hs
  obtain ⟨_, sc, rfl, ⟨y', rfl, rfl⟩, hs0⟩ := sr_1 hs
  obtain ⟨_, sc, rfl, ⟨x', rfl, rfl⟩, hs1⟩ := sr_1 hs0
  have hts := hC.2.2.2.2.2.1
  have hxN : x'.toNatClampNeg = N := by
    have := clamp32 (x := x') (by omega)
    omega
  have hyM : y'.toNatClampNeg = M := by
    have := clamp32 (x := y') (by omega)
    omega
  obtain ⟨k6, hk6, hd6⟩ := hK.2.2.2.2.2.2.2.2.2.1
  have h6 : s.vm.findClass "[[I" = some (cs 6) := (hK.1.2 6 (cs 6, .array .int) rfl).2
  obtain ⟨-, k0, hk0, cc0, hd0⟩ := (hK.1.2 0 (cs 0, .int) rfl).1 0 (fun _ => .null)
  have hFr : ∀ r ∈ B.1, r ≠ (t, 0) ∧ r ∉ rowsG t N := fun r hr => ⟨fun e => by subst e; exact hF.hd.1 hr, fun hm => (hF.tl r hm).1 hr⟩
  have h52 : ¬ t < 13 := arr_ge h (by decide)
  have ho1 : ¬ Out (t, 0) := out_arr h (by decide)
  have ho2 : ∀ j, ¬ Out (t + 50, j) := fun j => out_arr h2 (by decide)
  refine W_multi hC.1 hC.2.2.2.2.1 (hts _ hcl) h6 hk6 hd6 hk0 hd0 rfl (by rw [hC.2.1]; exact hd) rfl (fun q => by have := (z32_lt x').mp q; omega) (fun q => by have := (z32_lt y').mp q; omega) hxN hyM hN hM hk hn (fun H' z1 z2 z3 z4 => ?_)
  have hX1 : Ext B ad (adm B t N) (adg ad t N H.size) := by
    refine ⟨fun r hr => List.mem_append_left _ hr, fun r hr => adg_2 ?_ ?_⟩
    · rintro rfl
      exact hr.elim (fun q => (hFr _ q).1 rfl) ho1
    · intro hm
      rcases hr with q | q
      · exact (hFr _ q).2 hm
      · obtain ⟨j, -, rfl⟩ := List.mem_map.mp hm
        exact ho2 j q
  have hB2 : ∀ r ∈ B.1, ∀ j, (adm B t N).2 r.1 r.2 j = B.2 r.1 r.2 j := fun r hr j => if_neg (fun e : r.1 = t ∧ r.2 = 0 ∧ j < N => (hFr r hr).1 (Prod.ext e.1 e.2.1))
  have hw : wl cs (adm B t N) (adg ad t N H.size) σ = wl cs B ad σ ++ ((t, 0) :: rowsG t N).map (fun q => (adg ad t N H.size q.1 q.2, ce cs (adm B t N) (adg ad t N H.size) σ q.1 q.2)) := wl_grow rfl hR.2.2.2 (fun r hr => hX1.2 r (Or.inl hr)) hB2
  have hold : ∀ (k : Nat) (x : Nat × va_E), (wl cs B ad σ)[k]? = some x → x.1 < H.size := fun k x hx => (hR.1 k x hx).lt
  have hS1 : va_S A s.heap H' locs := ⟨Nat.le_trans hS.1 (by omega), fun q q1 q2 => (z4 q (Nat.lt_of_lt_of_le q1 hS.1)).trans (hS.2.1 q q1 q2), hS.2.2⟩
  have hnew : ∀ (k : Nat) (x : Nat × va_E), (((t, 0) :: rowsG t N).map (fun q => (adg ad t N H.size q.1 q.2, ce cs (adm B t N) (adg ad t N H.size) σ q.1 q.2)))[k]? = some x → x.1 = H.size + k ∧ va_at D vwCl x H' := by
    intro k x hx
    rw [List.getElem?_map, Option.map_eq_some_iff] at hx
    obtain ⟨r, hr, rfl⟩ := hx
    match k, hr with
    | 0, hr =>
      cases hr
      refine ⟨adg_0, ?_⟩
      show va_at D vwCl (adg ad t N H.size t 0, ce cs (adm B t N) (adg ad t N H.size) σ t 0) H'
      rw [ce_ref h (by decide) (by decide), adg_0]
      show H'[H.size]? = some (vp_cell (cs 6) (N, _))
      rw [z2, vp_cell_q]
      congr 2
      funext j
      unfold rfv
      by_cases hj : j < N
      · rw [if_pos hj, if_pos (show (adm B t N).2 t 0 j = true from if_pos ⟨rfl, rfl, hj⟩), hgo, adg_1 hj]
        rfl
      · rw [if_neg hj, if_neg ?_]
        · rfl
        · rw [show (adm B t N).2 t 0 j = B.2 t 0 j from if_neg (fun e => hj e.2.2), hF.hd.2 j]
          decide
    | k + 1, hr =>
      rw [List.getElem?_cons_succ] at hr
      obtain ⟨hk1, rfl⟩ := rowsG_at hr
      refine ⟨(adg_1 hk1).trans (by omega), ?_⟩
      show va_at D vwCl (adg ad t N H.size (t + 50) k, ce cs (adm B t N) (adg ad t N H.size) σ (t + 50) k) H'
      rw [ce_int h2 (by decide) (by decide), adg_1 hk1]
      show H'[H.size + 1 + k]? = some (vp_cell (cs 0) (M, _))
      rw [z3 k hk1, vp_cell_i]
      congr 2
      funext j
      rw [hZ _ (rowsG_in hk1) (fun e => by
        have e' : t + 50 = 600 := e
        rw [e'] at h2
        exact absurd (show (4 : Nat) = 0 from congrArg Prod.fst h2) (by decide))]
      rfl
  have hRep : Rep cs D A (adm B t N) (adg ad t N H.size) σ H' := by
    refine ⟨?_, ?_, hR.2.2.1, fun r hr j g1 g2 => ?_⟩
    · rw [hw]
      exact (hR.1.kept (fun k x hx => z4 _ (hold k x hx))).app (fun k x hx => (hnew k x hx).2)
    · rw [hw]
      refine vaD_app hR.2.1 hold (fun k x hx => ⟨(hnew k x hx).1, hA _ ?_⟩)
      have h9 := hS.1
      rw [(hnew k x hx).1]
      omega
    · rcases List.mem_append.mp hr with q | q
      · rw [hB2 r q j] at g2
        exact List.mem_append_left _ (hR.2.2.2 r q j g1 g2)
      · refine List.mem_append_right _ ?_
        rcases List.mem_cons.mp q with rfl | q
        · show go σ t 0 j ∈ _
          rw [hgo]
          have g3 : (if t = t ∧ 0 = 0 ∧ j < N then true else B.2 t 0 j) = true := g2
          by_cases hj : j < N
          · exact List.mem_cons_of_mem _ (rowsG_in hj)
          · rw [if_neg (fun e => hj e.2.2), hF.hd.2 j] at g3
            cases g3
        · obtain ⟨i, -, rfl⟩ := List.mem_map.mp q
          exfalso
          unfold rfp at g1
          rw [if_neg (arr_ge h2 (by decide))] at g1
          rw [show (shp (t + 50, i).1) = (0, M) from h2] at g1
          cases g1
  exact kk p l e s m args below meth c H' locs cs D A (adg ad t N H.size) ad0 B0 lc (.ref H.size :: sc) hC (hK.ext hX1) hA hS1 hRep (hX.tr hX1) (hl.ext hX1) ⟨⟨Or.inl (List.mem_append_right _ List.mem_cons_self), by rw [adg_0]⟩, hs1.ext hX1⟩
end Made2
