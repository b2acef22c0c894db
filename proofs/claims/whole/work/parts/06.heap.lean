/-! classes: their words are among those that last -/
theorem inG_l {ws : List Cond} (ps : List Nat) (hp : ws = ps.filterMap (fun i => lw_tbl[i]?)) (hg : ws.all goodWord = true) : ∀ w ∈ ws, w ∈ tG := by
  intro w hw
  have h1 := List.all_eq_true.mp hg w hw
  rw [hp] at hw
  obtain ⟨i, -, hi⟩ := List.mem_filterMap.mp hw
  exact inG hi h1
theorem ciX0 : ∀ w ∈ u_ws RX0 TX0 3, w ∈ tG := inG_l [412, 414, 416] (by decide +kernel) (by decide +kernel)
theorem ciX1 : ∀ w ∈ u_ws RX1 TX1 7, w ∈ tG := inG_l [434, 436, 438, 440, 442, 444, 446] (by decide +kernel) (by decide +kernel)
theorem ciX2 : ∀ w ∈ u_ws RX2 TX2 4, w ∈ tG := inG_l [181, 183, 185, 187] (by decide +kernel) (by decide +kernel)
theorem ciX3 : ∀ w ∈ u_ws RX3 TX3 4, w ∈ tG := inG_l [272, 274, 276, 278] (by decide +kernel) (by decide +kernel)
theorem ciX4 : ∀ w ∈ u_ws RX4 TX4 4, w ∈ tG := inG_l [465, 467, 469, 471] (by decide +kernel) (by decide +kernel)
theorem ciX5 : ∀ w ∈ u_ws RX5 TX5 2, w ∈ tG := inG_l [371, 373] (by decide +kernel) (by decide +kernel)
theorem ciX6 : ∀ w ∈ u_ws RX6 TX6 3, w ∈ tG := inG_l [290, 292, 294] (by decide +kernel) (by decide +kernel)
theorem ciX7 : ∀ w ∈ u_ws RX7 TX7 4, w ∈ tG := inG_l [387, 389, 391, 393] (by decide +kernel) (by decide +kernel)
theorem ciX8 : ∀ w ∈ u_ws RX8 TX8 14, w ∈ tG := inG_l [231, 233, 235, 237, 239, 241, 243, 245, 247, 249, 251, 253, 255, 257] (by decide +kernel) (by decide +kernel)
theorem ciX9 : ∀ w ∈ u_ws RX9 TX9 13, w ∈ tG := inG_l [332, 334, 336, 338, 340, 342, 344, 346, 348, 350, 352, 354, 356] (by decide +kernel) (by decide +kernel)
theorem ciX10 : ∀ w ∈ u_ws RX10 TX10 7, w ∈ tG := inG_l [146, 148, 150, 152, 154, 156, 158] (by decide +kernel) (by decide +kernel)
theorem ciX11 : ∀ w ∈ u_ws RX11 TX11 13, w ∈ tG := inG_l [487, 489, 491, 493, 495, 497, 499, 501, 503, 505, 507, 509, 511] (by decide +kernel) (by decide +kernel)
theorem ciX12 : ∀ w ∈ u_ws RX12 TX12 59, w ∈ tG := inG_l [1459, 1461, 1463, 1465, 1467, 1469, 1471, 1473, 1475, 1477, 1479, 1481, 1483, 1485, 1487, 1489, 1491, 1493, 1495, 1497, 1499, 1501, 1503, 1505, 1507, 1509, 1511, 1513, 1515, 1517, 1519, 1521, 1523, 1525, 1527, 1529, 1531, 1533, 1535, 1537, 1539, 1541, 1543, 1545, 1547, 1549, 1551, 1553, 1555, 1557, 1559, 1561, 1563, 1565, 1567, 1569, 1571, 1573, 1575] (by decide +kernel) (by decide +kernel)
theorem cls_at {t : Nat} (h : t < 13) : vwCl[t]? = some (Rt t, Tt t, nf t) := by
  rcases (show t = 0 ∨ t = 1 ∨ t = 2 ∨ t = 3 ∨ t = 4 ∨ t = 5 ∨ t = 6 ∨ t = 7 ∨ t = 8 ∨ t = 9 ∨ t = 10 ∨ t = 11 ∨ t = 12 by omega) with rfl | rfl | rfl | rfl | rfl | rfl | rfl | rfl | rfl | rfl | rfl | rfl | rfl
  all_goals rfl
theorem cls_in {t : Nat} (h : t < 13) : ∀ w ∈ u_ws (Rt t) (Tt t) (nf t), w ∈ tG := by
  rcases (show t = 0 ∨ t = 1 ∨ t = 2 ∨ t = 3 ∨ t = 4 ∨ t = 5 ∨ t = 6 ∨ t = 7 ∨ t = 8 ∨ t = 9 ∨ t = 10 ∨ t = 11 ∨ t = 12 by omega) with rfl | rfl | rfl | rfl | rfl | rfl | rfl | rfl | rfl | rfl | rfl | rfl | rfl
  · exact ciX0
  · exact ciX1
  · exact ciX2
  · exact ciX3
  · exact ciX4
  · exact ciX5
  · exact ciX6
  · exact ciX7
  · exact ciX8
  · exact ciX9
  · exact ciX10
  · exact ciX11
  · exact ciX12
theorem cls_ty {t : Nat} (h : t < 13) : ∀ k, k < nf t → parseFieldDescriptor (Tt t k).2.2.1 = some (tyT t k) := by
  rcases (show t = 0 ∨ t = 1 ∨ t = 2 ∨ t = 3 ∨ t = 4 ∨ t = 5 ∨ t = 6 ∨ t = 7 ∨ t = 8 ∨ t = 9 ∨ t = 10 ∨ t = 11 ∨ t = 12 by omega) with rfl | rfl | rfl | rfl | rfl | rfl | rfl | rfl | rfl | rfl | rfl | rfl | rfl
  · exact tyX0_ok
  · exact tyX1_ok
  · exact tyX2_ok
  · exact tyX3_ok
  · exact tyX4_ok
  · exact tyX5_ok
  · exact tyX6_ok
  · exact tyX7_ok
  · exact tyX8_ok
  · exact tyX9_ok
  · exact tyX10_ok
  · exact tyX11_ok
  · exact tyX12_ok
theorem cls_nm {t : Nat} (h : t < 13) : ∀ a, a < nf t → ∀ b, b < nf t → a ≠ b → (Tt t a).2.1 ≠ (Tt t b).2.1 := by
  rcases (show t = 0 ∨ t = 1 ∨ t = 2 ∨ t = 3 ∨ t = 4 ∨ t = 5 ∨ t = 6 ∨ t = 7 ∨ t = 8 ∨ t = 9 ∨ t = 10 ∨ t = 11 ∨ t = 12 by omega) with rfl | rfl | rfl | rfl | rfl | rfl | rfl | rfl | rfl | rfl | rfl | rfl | rfl
  · exact nmX0
  · exact nmX1
  · exact nmX2
  · exact nmX3
  · exact nmX4
  · exact nmX5
  · exact nmX6
  · exact nmX7
  · exact nmX8
  · exact nmX9
  · exact nmX10
  · exact nmX11
  · exact nmX12
theorem shp_lt {t : Nat} (h : t < 13) : shp t = (99, 0) := by
  rcases (show t = 0 ∨ t = 1 ∨ t = 2 ∨ t = 3 ∨ t = 4 ∨ t = 5 ∨ t = 6 ∨ t = 7 ∨ t = 8 ∨ t = 9 ∨ t = 10 ∨ t = 11 ∨ t = 12 by omega) with rfl | rfl | rfl | rfl | rfl | rfl | rfl | rfl | rfl | rfl | rfl | rfl | rfl
  all_goals rfl
/-- the field of a pool entry: class t, place j -/
def FL (own : String) (index t j : Nat) : Prop := Cond.fieldLink own index (Tt t j).1 (Tt t j).2.1 (Tt t j).2.2.1 ∈ tG ∧ t < 13 ∧ j < nf t
theorem out_obj {t i : Nat} (h : t < 13) : ¬ Out (t, i) := by
  rintro (e | e | e) <;> (have e' : t = _ := e; omega)
theorem out_arr {t i a b : Nat} (h : shp t = (a, b)) (ha : a ≠ 99) : ¬ Out (t, i) := by
  rintro (e | e | e) <;> (have e' : t = _ := e; subst e'; exact ha (congrArg Prod.fst h).symm)
theorem arr_ge {t a b : Nat} (h : shp t = (a, b)) (ha : a ≠ 99) : ¬ t < 13 := fun q => ha (by rw [shp_lt q] at h; exact (congrArg Prod.fst h).symm)
theorem ce_obj {cs : Nat → ClassId} {B : Wd} {ad : Ad} {σ : St} {t i : Nat} (h : t < 13) : ce cs B ad σ t i = .inr (t, (List.range (nf t)).map (fun j => sv B ad σ t i j)) := if_pos h
theorem ce_int {cs : Nat → ClassId} {B : Wd} {ad : Ad} {σ : St} {t i a b : Nat} (h : shp t = (a, b)) (h1 : a ≠ 1) (h4 : a < 4) : ce cs B ad σ t i = .inl (cs a, b, .inl (fun j => Int32.ofInt (σ t i j))) := by
  unfold ce ca
  rw [if_neg (arr_ge h (by omega)), h]
  simp only
  rw [if_neg h1, if_neg (by omega)]
theorem ce_lng {cs : Nat → ClassId} {B : Wd} {ad : Ad} {σ : St} {t i b : Nat} (h : shp t = (1, b)) : ce cs B ad σ t i = .inl (cs 1, b, .inr (.inl (fun j => Int64.ofInt (σ t i j)))) := by
  unfold ce ca
  rw [if_neg (arr_ge h (by omega)), h]
  rfl
theorem ce_ref {cs : Nat → ClassId} {B : Wd} {ad : Ad} {σ : St} {t i a b : Nat} (h : shp t = (a, b)) (h4 : 4 ≤ a) (h9 : a < 99) : ce cs B ad σ t i = .inl (cs a, b, .inr (.inr (.inr (.inr (fun j => rfv B ad σ t i j))))) := by
  unfold ce ca
  rw [if_neg (arr_ge h (by omega)), h]
  simp only
  rw [if_neg (by omega), if_pos h4]
theorem fs_at {B : Wd} {ad : Ad} {σ : St} {t i j : Nat} (h : j < nf t) : ((List.range (nf t)).map (fun j => sv B ad σ t i j))[j]? = some (sv B ad σ t i j) := by
  rw [List.getElem?_map, List.getElem?_range h]
  rfl
theorem sv_up {B : Wd} {ad : Ad} {σ : St} {t i j j' : Nat} {z : Int} (ht : t < 13) (h : j' ≠ j) : sv B ad (up σ t i j z) t i j' = sv B ad σ t i j' := by
  have e : up σ t i j z t i j' = σ t i j' := up_nx (fun q => h (Int.ofNat.inj q))
  have g : go (up σ t i j z) t i j' = go σ t i j' := by unfold go; rw [if_pos ht, if_pos ht]
  unfold sv rfv
  rw [e, g]
theorem ce_put {cs : Nat → ClassId} {B : Wd} {ad : Ad} {σ : St} {t i j : Nat} {z : Int} {v : Value} (ht : t < 13) (hv : sv B ad (up σ t i j z) t i j = v) : (.inr (t, ((List.range (nf t)).map (fun j => sv B ad σ t i j)).set j v) : va_E) = ce cs B ad (up σ t i j z) t i := by
  rw [ce_obj ht]
  congr 2
  apply List.ext_getElem?
  intro a
  rw [List.getElem?_set]
  by_cases e : j = a
  · subst e
    by_cases hl : j < nf t
    · rw [if_pos rfl, if_pos (by simpa using hl), fs_at hl, hv]
    · rw [if_pos rfl, if_neg (by simpa using hl)]
      simp [hl]
  · rw [if_neg e]
    by_cases hl : a < nf t
    · rw [fs_at hl, fs_at hl, sv_up ht (fun q => e q.symm)]
    · simp [hl]
theorem clamp32 {x : Int32} (h : 0 ≤ x.toInt) : ((x.toNatClampNeg : Nat) : Int) = x.toInt := Int.toNat_of_nonneg h
theorem ce_iput {cs : Nat → ClassId} {B : Wd} {ad : Ad} {σ : St} {t i a b : Nat} {x' v' : Int32} {z : Int} (h : shp t = (a, b)) (h1 : a ≠ 1) (h4 : a < 4) (hx : 0 ≤ x'.toInt) (hv : v'.toInt = z) : (.inl (cs a, b, .inl (upd (fun j => Int32.ofInt (σ t i j)) x'.toNatClampNeg v')) : va_E) = ce cs B ad (up σ t i x'.toInt z) t i := by
  rw [ce_int h h1 h4]
  congr 3
  congr 1
  funext j
  unfold upd
  by_cases e : j = x'.toNatClampNeg
  · subst e
    rw [if_pos rfl, clamp32 hx, up_at, ← hv, i32_back]
  · rw [if_neg e, up_nx (fun q => e (by have q2 := q.trans (clamp32 hx).symm; omega))]
theorem ce_lput {cs : Nat → ClassId} {B : Wd} {ad : Ad} {σ : St} {t i b : Nat} {x' : Int32} {v' : Int64} {z : Int} (h : shp t = (1, b)) (hx : 0 ≤ x'.toInt) (hv : v'.toInt = z) : (.inl (cs 1, b, .inr (.inl (vp_updL (fun j => Int64.ofInt (σ t i j)) x'.toNatClampNeg v'))) : va_E) = ce cs B ad (up σ t i x'.toInt z) t i := by
  rw [ce_lng h]
  congr 3
  congr 2
  funext j
  unfold vp_updL
  by_cases e : j = x'.toNatClampNeg
  · subst e
    rw [if_pos rfl, clamp32 hx, up_at, ← hv, i64_back]
  · rw [if_neg e, up_nx (fun q => e (by have q2 := q.trans (clamp32 hx).symm; omega))]
theorem lgp_arr {t a b : Nat} {j : Nat} (h : shp t = (a, b)) (h9 : a ≠ 99) : lgp t j = (a == 1) := by
  unfold lgp
  rw [if_neg (arr_ge h h9), h]
theorem lgp_obj {t j : Nat} (h : t < 13) : lgp t j = (skk t j == 1) := by
  unfold lgp
  rw [if_pos h]
section ERules3
variable {Y : My} {d mc ms : Nat} {Q : Option AV → Wd → St → Prop} {B : Wd} {k n pc : Nat} {ls : List (Option AV)} {st : List AV} {σ : St}
theorem E_geti {t i j index : Nat} (hd : decode Y.2.1 pc = .ok (.getfield index, 3)) (hf : FL Y.1.cls index t j) (hk : skk t j = 0) (kk : E Y d mc ms Q B k n (pc + 3) ls (vI (σ t i j) :: st) σ) : E Y d mc ms Q B k n pc ls (vR t i :: st) σ := by
  refine E_lift ?_ kk
  intro p l e s m args below meth c H locs cs D A ad Z lc sc hC hK hS hR hl hs kk
  obtain ⟨hf, ht, hj⟩ := hf
  obtain ⟨_, sc, rfl, ⟨hm, rfl⟩, hs1⟩ := sr_1 hs
  obtain ⟨q, hq1, hq2⟩ := wl_at (cs := cs) (ad := ad) (σ := σ) (hm.resolve_right (out_obj ht))
  have hrg := hR.2.2.1 t i j
  rw [lgp_obj ht, hk, if_neg (by decide)] at hrg
  have hv : sv B ad σ t i j = .int (Int32.ofInt (σ t i j)) := by unfold sv; rw [hk]; rfl
  exact va_get (ci := t) hC.1 hC.2.1 hC.2.2.2.2.2.1 (cls_in ht) hC.2.2.2.2.1 hK.1 hR.1 q (by rw [hq2, ce_obj ht]) (cls_at ht) j hj (hC.2.2.2.2.2.1 _ hf) (fun _ h => h) ((fs_at hj).trans (by rw [hv])) hd (kk H locs lc _ hS hR hl ⟨rl_int _ (i32_to hrg), hs1⟩)
theorem E_getl {t i j index : Nat} (hd : decode Y.2.1 pc = .ok (.getfield index, 3)) (hf : FL Y.1.cls index t j) (hk : skk t j = 1) (kk : E Y d mc ms Q B k n (pc + 3) ls (vL (σ t i j) :: st) σ) : E Y d mc ms Q B k n pc ls (vR t i :: st) σ := by
  refine E_lift ?_ kk
  intro p l e s m args below meth c H locs cs D A ad Z lc sc hC hK hS hR hl hs kk
  obtain ⟨hf, ht, hj⟩ := hf
  obtain ⟨_, sc, rfl, ⟨hm, rfl⟩, hs1⟩ := sr_1 hs
  obtain ⟨q, hq1, hq2⟩ := wl_at (cs := cs) (ad := ad) (σ := σ) (hm.resolve_right (out_obj ht))
  have hrg := hR.2.2.1 t i j
  rw [lgp_obj ht, hk, if_pos (by decide)] at hrg
  have hv : sv B ad σ t i j = .long (Int64.ofInt (σ t i j)) := by unfold sv; rw [hk]; rfl
  exact va_get (ci := t) hC.1 hC.2.1 hC.2.2.2.2.2.1 (cls_in ht) hC.2.2.2.2.1 hK.1 hR.1 q (by rw [hq2, ce_obj ht]) (cls_at ht) j hj (hC.2.2.2.2.2.1 _ hf) (fun _ h => h) ((fs_at hj).trans (by rw [hv])) hd (kk H locs lc _ hS hR hl ⟨rl_lng _ (i64_to hrg), hs1⟩)
theorem E_getr {t i j index t' i' : Nat} (hd : decode Y.2.1 pc = .ok (.getfield index, 3)) (hf : FL Y.1.cls index t j) (hk : skk t j = 2) (hB : B.2 t i j = true) (hg : go σ t i j = (t', i')) (kk : E Y d mc ms Q B k n (pc + 3) ls (vR t' i' :: st) σ) : E Y d mc ms Q B k n pc ls (vR t i :: st) σ := by
  refine E_lift ?_ kk
  intro p l e s m args below meth c H locs cs D A ad Z lc sc hC hK hS hR hl hs kk
  obtain ⟨hf, ht, hj⟩ := hf
  obtain ⟨_, sc, rfl, ⟨hm, rfl⟩, hs1⟩ := sr_1 hs
  have hm := hm.resolve_right (out_obj ht)
  obtain ⟨q, hq1, hq2⟩ := wl_at (cs := cs) (ad := ad) (σ := σ) hm
  have hcl := hR.2.2.2 _ hm j (by unfold rfp; rw [if_pos ht, hk]; rfl) hB
  rw [show go σ (t, i).1 (t, i).2 j = (t', i') from hg] at hcl
  have hv : sv B ad σ t i j = .ref (ad t' i') := by unfold sv rfv; rw [hk, hg]; simp only; rw [if_pos hB]; rfl
  exact va_get (ci := t) hC.1 hC.2.1 hC.2.2.2.2.2.1 (cls_in ht) hC.2.2.2.2.1 hK.1 hR.1 q (by rw [hq2, ce_obj ht]) (cls_at ht) j hj (hC.2.2.2.2.2.1 _ hf) (fun _ h => h) ((fs_at hj).trans (by rw [hv])) hd (kk H locs lc _ hS hR hl ⟨⟨Or.inl hcl, rfl⟩, hs1⟩)
theorem E_puti {t i j index : Nat} {z : Int} (hd : decode Y.2.1 pc = .ok (.putfield index, 3)) (hf : FL Y.1.cls index t j) (hk : skk t j = 0) (hfin : (Tt t j).2.2.2 = false) (hty : tyT t j = .int) (kk : E Y d mc ms Q B k n (pc + 3) ls st (up σ t i j z)) : E Y d mc ms Q B k n pc ls (vI z :: vR t i :: st) σ := by
  refine E_lift ?_ kk
  intro p l e s m args below meth c H locs cs D A ad Z lc sc hC hK hS hR hl hs kk
  obtain ⟨hf, ht, hj⟩ := hf
  obtain ⟨_, sc, rfl, ⟨x', rfl, rfl⟩, hs1⟩ := sr_1 hs
  obtain ⟨_, sc, rfl, ⟨hm, rfl⟩, hs2⟩ := sr_1 hs1
  obtain ⟨q, hq1, hq2⟩ := wl_at (cs := cs) (ad := ad) (σ := σ) (hm.resolve_right (out_obj ht))
  refine va_put (ci := t) (ty := .int) hC.1 hC.2.1 hC.2.2.2.2.2.1 (cls_in ht) (tyT t) (cls_ty ht) (cls_nm ht) hC.2.2.2.2.1 hK.1 hR.1 hR.2.1 hS q (by rw [hq2, ce_obj ht]) (cls_at ht) j hj (hC.2.2.2.2.2.1 _ hf) (fun _ h => h) hfin ((cls_ty ht j hj).trans (by rw [hty])) rfl rfl (by simpa using hj) hd (fun H1 locs1 hP1 hD1 hS1 => ?_)
  refine kk H1 locs1 lc sc hS1 (Rep_put hR hq1 hP1 hD1 (ce_put ht ?_) ?_ (by omega)) hl hs2
  · unfold sv; rw [hk]; simp only [up_at, i32_back]
  · rw [lgp_obj ht, hk, if_neg (by decide)]; exact i32_of x'
theorem E_putz {t i j index : Nat} {z : Int} (hd : decode Y.2.1 pc = .ok (.putfield index, 3)) (hf : FL Y.1.cls index t j) (hk : skk t j = 0) (hfin : (Tt t j).2.2.2 = false) (hty : tyT t j = .boolean) (hz : z = 0 ∨ z = 1) (kk : E Y d mc ms Q B k n (pc + 3) ls st (up σ t i j z)) : E Y d mc ms Q B k n pc ls (vI z :: vR t i :: st) σ := by
  refine E_lift ?_ kk
  intro p l e s m args below meth c H locs cs D A ad Z lc sc hC hK hS hR hl hs kk
  obtain ⟨hf, ht, hj⟩ := hf
  obtain ⟨_, sc, rfl, ⟨x', rfl, rfl⟩, hs1⟩ := sr_1 hs
  obtain ⟨_, sc, rfl, ⟨hm, rfl⟩, hs2⟩ := sr_1 hs1
  obtain ⟨q, hq1, hq2⟩ := wl_at (cs := cs) (ad := ad) (σ := σ) (hm.resolve_right (out_obj ht))
  have hx : x' = 0 ∨ x' = 1 := hz.imp (fun h => Int32.toInt_inj.mp h) (fun h => Int32.toInt_inj.mp h)
  refine va_put (ci := t) (ty := .boolean) hC.1 hC.2.1 hC.2.2.2.2.2.1 (cls_in ht) (tyT t) (cls_ty ht) (cls_nm ht) hC.2.2.2.2.1 hK.1 hR.1 hR.2.1 hS q (by rw [hq2, ce_obj ht]) (cls_at ht) j hj (hC.2.2.2.2.2.1 _ hf) (fun _ h => h) hfin ((cls_ty ht j hj).trans (by rw [hty])) (by rcases hx with rfl | rfl <;> rfl) (by rcases hx with rfl | rfl <;> rfl) (by simpa using hj) hd (fun H1 locs1 hP1 hD1 hS1 => ?_)
  refine kk H1 locs1 lc sc hS1 (Rep_put hR hq1 hP1 hD1 (ce_put ht ?_) ?_ (by omega)) hl hs2
  · unfold sv; rw [hk]; simp only [up_at, i32_back]
  · rw [lgp_obj ht, hk, if_neg (by decide)]; exact i32_of x'
theorem E_putl {t i j index : Nat} {z : Int} (hd : decode Y.2.1 pc = .ok (.putfield index, 3)) (hf : FL Y.1.cls index t j) (hk : skk t j = 1) (hfin : (Tt t j).2.2.2 = false) (hty : tyT t j = .long) (kk : E Y d mc ms Q B k n (pc + 3) ls st (up σ t i j z)) : E Y d mc ms Q B k n pc ls (vL z :: vR t i :: st) σ := by
  refine E_lift ?_ kk
  intro p l e s m args below meth c H locs cs D A ad Z lc sc hC hK hS hR hl hs kk
  obtain ⟨hf, ht, hj⟩ := hf
  obtain ⟨_, sc, rfl, ⟨x', rfl, rfl⟩, hs1⟩ := sr_1 hs
  obtain ⟨_, sc, rfl, ⟨hm, rfl⟩, hs2⟩ := sr_1 hs1
  obtain ⟨q, hq1, hq2⟩ := wl_at (cs := cs) (ad := ad) (σ := σ) (hm.resolve_right (out_obj ht))
  refine va_put (ci := t) (ty := .long) hC.1 hC.2.1 hC.2.2.2.2.2.1 (cls_in ht) (tyT t) (cls_ty ht) (cls_nm ht) hC.2.2.2.2.1 hK.1 hR.1 hR.2.1 hS q (by rw [hq2, ce_obj ht]) (cls_at ht) j hj (hC.2.2.2.2.2.1 _ hf) (fun _ h => h) hfin ((cls_ty ht j hj).trans (by rw [hty])) rfl rfl (by simpa using hj) hd (fun H1 locs1 hP1 hD1 hS1 => ?_)
  refine kk H1 locs1 lc sc hS1 (Rep_put hR hq1 hP1 hD1 (ce_put ht ?_) ?_ (by omega)) hl hs2
  · unfold sv; rw [hk]; simp only [up_at, i64_back]
  · rw [lgp_obj ht, hk, if_pos (by decide)]; exact i64_of x'
theorem vin {x' : Int32} {b : Nat} (h0 : 0 ≤ x'.toInt) (h1 : x'.toInt < (b : Int)) : vp_in x' b := vp_in_iff.mpr ⟨h0, h1⟩
theorem E_iald {t i b : Nat} {x : Int} (hd : decode Y.2.1 pc = .ok (.iaload, 1)) (h : shp t = (0, b)) (h0 : 0 ≤ x) (h1 : x < (b : Int)) (kk : E Y d mc ms Q B k n (pc + 1) ls (vI (σ t i x) :: st) σ) : E Y d mc ms Q B k n pc ls (vI x :: vR t i :: st) σ := by
  refine E_lift ?_ kk
  intro p l e s m args below meth c H locs cs D A ad Z lc sc hC hK hS hR hl hs kk
  obtain ⟨_, sc, rfl, ⟨x', rfl, rfl⟩, hs1⟩ := sr_1 hs
  obtain ⟨_, sc, rfl, ⟨hm, rfl⟩, hs2⟩ := sr_1 hs1
  obtain ⟨q, hq1, hq2⟩ := wl_at (cs := cs) (ad := ad) (σ := σ) (hm.resolve_right (out_arr h (by decide)))
  have hrg := hR.2.2.1 t i x'.toNatClampNeg
  rw [lgp_arr h (by decide), if_neg (by decide), clamp32 h0] at hrg
  exact va_iald hC.1 hC.2.1 hK.1 hR.1 q 0 (cA := cs 0) (n := b) (f := fun j => Int32.ofInt (σ t i j)) (by rw [hq2, ce_int h (by decide) (by decide)]) rfl (vin h0 h1) hd (kk H locs lc _ hS hR hl ⟨rl_int _ (by show (Int32.ofInt (σ t i _)).toInt = _; rw [clamp32 h0]; exact i32_to hrg), hs2⟩)
theorem E_zald {t i b : Nat} {x : Int} (hd : decode Y.2.1 pc = .ok (.baload, 1)) (h : shp t = (2, b)) (h0 : 0 ≤ x) (h1 : x < (b : Int)) (kk : E Y d mc ms Q B k n (pc + 1) ls (vI (σ t i x) :: st) σ) : E Y d mc ms Q B k n pc ls (vI x :: vR t i :: st) σ := by
  refine E_lift ?_ kk
  intro p l e s m args below meth c H locs cs D A ad Z lc sc hC hK hS hR hl hs kk
  obtain ⟨_, sc, rfl, ⟨x', rfl, rfl⟩, hs1⟩ := sr_1 hs
  obtain ⟨_, sc, rfl, ⟨hm, rfl⟩, hs2⟩ := sr_1 hs1
  obtain ⟨q, hq1, hq2⟩ := wl_at (cs := cs) (ad := ad) (σ := σ) (hm.resolve_right (out_arr h (by decide)))
  have hrg := hR.2.2.1 t i x'.toNatClampNeg
  rw [lgp_arr h (by decide), if_neg (by decide), clamp32 h0] at hrg
  exact va_zald hC.1 hC.2.1 hK.1 hR.1 q 2 (cA := cs 2) (n := b) (f := fun j => Int32.ofInt (σ t i j)) (by rw [hq2, ce_int h (by decide) (by decide)]) rfl (vin h0 h1) hd (kk H locs lc _ hS hR hl ⟨rl_int _ (by show (Int32.ofInt (σ t i _)).toInt = _; rw [clamp32 h0]; exact i32_to hrg), hs2⟩)
theorem E_cald {t i b : Nat} {x : Int} (hd : decode Y.2.1 pc = .ok (.caload, 1)) (h : shp t = (3, b)) (h0 : 0 ≤ x) (h1 : x < (b : Int)) (kk : E Y d mc ms Q B k n (pc + 1) ls (vI (σ t i x) :: st) σ) : E Y d mc ms Q B k n pc ls (vI x :: vR t i :: st) σ := by
  refine E_lift ?_ kk
  intro p l e s m args below meth c H locs cs D A ad Z lc sc hC hK hS hR hl hs kk
  obtain ⟨_, sc, rfl, ⟨x', rfl, rfl⟩, hs1⟩ := sr_1 hs
  obtain ⟨_, sc, rfl, ⟨hm, rfl⟩, hs2⟩ := sr_1 hs1
  obtain ⟨q, hq1, hq2⟩ := wl_at (cs := cs) (ad := ad) (σ := σ) (hm.resolve_right (out_arr h (by decide)))
  have hrg := hR.2.2.1 t i x'.toNatClampNeg
  rw [lgp_arr h (by decide), if_neg (by decide), clamp32 h0] at hrg
  exact va_cald hC.1 hC.2.1 hK.1 hR.1 q 3 (cA := cs 3) (n := b) (f := fun j => Int32.ofInt (σ t i j)) (by rw [hq2, ce_int h (by decide) (by decide)]) rfl (vin h0 h1) hd (kk H locs lc _ hS hR hl ⟨rl_int _ (by show (Int32.ofInt (σ t i _)).toInt = _; rw [clamp32 h0]; exact i32_to hrg), hs2⟩)
theorem E_lald {t i b : Nat} {x : Int} (hd : decode Y.2.1 pc = .ok (.laload, 1)) (h : shp t = (1, b)) (h0 : 0 ≤ x) (h1 : x < (b : Int)) (kk : E Y d mc ms Q B k n (pc + 1) ls (vL (σ t i x) :: st) σ) : E Y d mc ms Q B k n pc ls (vI x :: vR t i :: st) σ := by
  refine E_lift ?_ kk
  intro p l e s m args below meth c H locs cs D A ad Z lc sc hC hK hS hR hl hs kk
  obtain ⟨_, sc, rfl, ⟨x', rfl, rfl⟩, hs1⟩ := sr_1 hs
  obtain ⟨_, sc, rfl, ⟨hm, rfl⟩, hs2⟩ := sr_1 hs1
  obtain ⟨q, hq1, hq2⟩ := wl_at (cs := cs) (ad := ad) (σ := σ) (hm.resolve_right (out_arr h (by decide)))
  have hrg := hR.2.2.1 t i x'.toNatClampNeg
  rw [lgp_arr h (by decide), if_pos (by decide), clamp32 h0] at hrg
  exact va_lald hC.1 hC.2.1 hK.1 hR.1 q 1 (cA := cs 1) (n := b) (f := fun j => Int64.ofInt (σ t i j)) (by rw [hq2, ce_lng h]) rfl (vin h0 h1) hd (kk H locs lc _ hS hR hl ⟨rl_lng _ (by show (Int64.ofInt (σ t i _)).toInt = _; rw [clamp32 h0]; exact i64_to hrg), hs2⟩)
theorem t600 {t a b : Nat} (h : shp t = (a, b)) (h4 : a ≠ 4) : t ≠ 600 := fun e => by subst e; exact h4 (congrArg Prod.fst h).symm
theorem up_cl {σ : St} {t i : Nat} {x' : Int32} {z : Int} (h0 : 0 ≤ x'.toInt) : up σ t i x'.toInt z = up σ t i (x'.toNatClampNeg : Nat) z := by rw [clamp32 h0]
theorem E_iast {t i b : Nat} {x z : Int} (hd : decode Y.2.1 pc = .ok (.iastore, 1)) (h : shp t = (0, b)) (h0 : 0 ≤ x) (h1 : x < (b : Int)) (kk : E Y d mc ms Q B k n (pc + 1) ls st (up σ t i x z)) : E Y d mc ms Q B k n pc ls (vI z :: vI x :: vR t i :: st) σ := by
  refine E_lift ?_ kk
  intro p l e s m args below meth c H locs cs D A ad Z lc sc hC hK hS hR hl hs kk
  obtain ⟨_, sc, rfl, ⟨z', rfl, rfl⟩, hs0⟩ := sr_1 hs
  obtain ⟨_, sc, rfl, ⟨x', rfl, rfl⟩, hs1⟩ := sr_1 hs0
  obtain ⟨_, sc, rfl, ⟨hm, rfl⟩, hs2⟩ := sr_1 hs1
  obtain ⟨q, hq1, hq2⟩ := wl_at (cs := cs) (ad := ad) (σ := σ) (hm.resolve_right (out_arr h (by decide)))
  refine va_iast hC.1 hC.2.1 hK.1 hR.1 hR.2.1 hS q 0 (cA := cs 0) (n := b) (f := fun j => Int32.ofInt (σ t i j)) (by rw [hq2, ce_int h (by decide) (by decide)]) rfl (vin h0 h1) hd (fun H1 locs1 hP1 hD1 hS1 => ?_)
  refine kk H1 locs1 lc sc hS1 ?_ hl hs2
  rw [up_cl h0]
  refine Rep_put hR hq1 hP1 hD1 ?_ ?_ (t600 h (by decide))
  · rw [← up_cl h0]; exact ce_iput h (by decide) (by decide) h0 rfl
  · rw [lgp_arr h (by decide), if_neg (by decide)]; exact i32_of z'
theorem nar_bool {x' : Int32} (h : x'.toInt = 0 ∨ x'.toInt = 1) : vp_nar .boolean x' = x' := by
  have hx : x' = 0 ∨ x' = 1 := h.imp (fun h => Int32.toInt_inj.mp h) (fun h => Int32.toInt_inj.mp h)
  rcases hx with rfl | rfl <;> rfl
theorem E_zast {t i b : Nat} {x z : Int} (hd : decode Y.2.1 pc = .ok (.bastore, 1)) (h : shp t = (2, b)) (h0 : 0 ≤ x) (h1 : x < (b : Int)) (hz : z = 0 ∨ z = 1) (kk : E Y d mc ms Q B k n (pc + 1) ls st (up σ t i x z)) : E Y d mc ms Q B k n pc ls (vI z :: vI x :: vR t i :: st) σ := by
  refine E_lift ?_ kk
  intro p l e s m args below meth c H locs cs D A ad Z lc sc hC hK hS hR hl hs kk
  obtain ⟨_, sc, rfl, ⟨z', rfl, rfl⟩, hs0⟩ := sr_1 hs
  obtain ⟨_, sc, rfl, ⟨x', rfl, rfl⟩, hs1⟩ := sr_1 hs0
  obtain ⟨_, sc, rfl, ⟨hm, rfl⟩, hs2⟩ := sr_1 hs1
  obtain ⟨q, hq1, hq2⟩ := wl_at (cs := cs) (ad := ad) (σ := σ) (hm.resolve_right (out_arr h (by decide)))
  refine va_zast hC.1 hC.2.1 hK.1 hR.1 hR.2.1 hS q 2 (cA := cs 2) (n := b) (f := fun j => Int32.ofInt (σ t i j)) (by rw [hq2, ce_int h (by decide) (by decide)]) rfl (vin h0 h1) hd (fun H1 locs1 hP1 hD1 hS1 => ?_)
  refine kk H1 locs1 lc sc hS1 ?_ hl hs2
  rw [up_cl h0]
  refine Rep_put hR hq1 hP1 hD1 ?_ ?_ (t600 h (by decide))
  · rw [← up_cl h0, nar_bool hz]; exact ce_iput h (by decide) (by decide) h0 rfl
  · rw [lgp_arr h (by decide), if_neg (by decide)]; exact i32_of z'
theorem nar_char {x' : Int32} (h0 : 0 ≤ x'.toInt) (h1 : x'.toInt < 65536) : vp_nar .char x' = x' := by
  obtain ⟨j, hj, rfl⟩ := nI_of (x := x') (fun q => by have := (z32_lt x').mp q; omega)
  rw [nI_toInt hj] at h1
  rw [vp_nar_char]
  apply Int32.toInt_inj.mp
  have hj' : j < 65536 := by omega
  rw [nI_toInt hj]
  have e1 : ((nI j).toUInt32).toNat = j := by
    unfold nI
    rw [Int32.toUInt32_ofNat', UInt32.toNat_ofNat']
    omega
  have e2 : ((nI j).toUInt32.toUInt16.toUInt32).toNat = j := by
    rw [UInt16.toNat_toUInt32, UInt32.toNat_toUInt16, e1]
    omega
  show BitVec.toInt _ = _
  rw [BitVec.toInt_eq_toNat_bmod]
  refine (congrArg (fun u : Nat => ((u : Int)).bmod (2 ^ 32)) e2).trans ?_
  exact Int.bmod_eq_of_le (by omega) (by omega)
theorem E_cast {t i b : Nat} {x z : Int} (hd : decode Y.2.1 pc = .ok (.castore, 1)) (h : shp t = (3, b)) (h0 : 0 ≤ x) (h1 : x < (b : Int)) (hz0 : 0 ≤ z) (hz1 : z < 65536) (kk : E Y d mc ms Q B k n (pc + 1) ls st (up σ t i x z)) : E Y d mc ms Q B k n pc ls (vI z :: vI x :: vR t i :: st) σ := by
  refine E_lift ?_ kk
  intro p l e s m args below meth c H locs cs D A ad Z lc sc hC hK hS hR hl hs kk
  obtain ⟨_, sc, rfl, ⟨z', rfl, rfl⟩, hs0⟩ := sr_1 hs
  obtain ⟨_, sc, rfl, ⟨x', rfl, rfl⟩, hs1⟩ := sr_1 hs0
  obtain ⟨_, sc, rfl, ⟨hm, rfl⟩, hs2⟩ := sr_1 hs1
  obtain ⟨q, hq1, hq2⟩ := wl_at (cs := cs) (ad := ad) (σ := σ) (hm.resolve_right (out_arr h (by decide)))
  refine va_cast hC.1 hC.2.1 hK.1 hR.1 hR.2.1 hS q 3 (cA := cs 3) (n := b) (f := fun j => Int32.ofInt (σ t i j)) (by rw [hq2, ce_int h (by decide) (by decide)]) rfl (vin h0 h1) hd (fun H1 locs1 hP1 hD1 hS1 => ?_)
  refine kk H1 locs1 lc sc hS1 ?_ hl hs2
  rw [up_cl h0]
  refine Rep_put hR hq1 hP1 hD1 ?_ ?_ (t600 h (by decide))
  · rw [← up_cl h0, nar_char hz0 hz1]; exact ce_iput h (by decide) (by decide) h0 rfl
  · rw [lgp_arr h (by decide), if_neg (by decide)]; exact i32_of z'
theorem E_last {t i b : Nat} {x z : Int} (hd : decode Y.2.1 pc = .ok (.lastore, 1)) (h : shp t = (1, b)) (h0 : 0 ≤ x) (h1 : x < (b : Int)) (kk : E Y d mc ms Q B k n (pc + 1) ls st (up σ t i x z)) : E Y d mc ms Q B k n pc ls (vL z :: vI x :: vR t i :: st) σ := by
  refine E_lift ?_ kk
  intro p l e s m args below meth c H locs cs D A ad Z lc sc hC hK hS hR hl hs kk
  obtain ⟨_, sc, rfl, ⟨z', rfl, rfl⟩, hs0⟩ := sr_1 hs
  obtain ⟨_, sc, rfl, ⟨x', rfl, rfl⟩, hs1⟩ := sr_1 hs0
  obtain ⟨_, sc, rfl, ⟨hm, rfl⟩, hs2⟩ := sr_1 hs1
  obtain ⟨q, hq1, hq2⟩ := wl_at (cs := cs) (ad := ad) (σ := σ) (hm.resolve_right (out_arr h (by decide)))
  refine va_last hC.1 hC.2.1 hK.1 hR.1 hR.2.1 hS q 1 (cA := cs 1) (n := b) (f := fun j => Int64.ofInt (σ t i j)) (by rw [hq2, ce_lng h]) rfl (vin h0 h1) hd (fun H1 locs1 hP1 hD1 hS1 => ?_)
  refine kk H1 locs1 lc sc hS1 ?_ hl hs2
  rw [up_cl h0]
  refine Rep_put hR hq1 hP1 hD1 ?_ ?_ (t600 h (by decide))
  · rw [← up_cl h0]; exact ce_lput h h0 rfl
  · rw [lgp_arr h (by decide), if_pos (by decide)]; exact i64_of z'
theorem E_alen {t i a b : Nat} (hd : decode Y.2.1 pc = .ok (.arraylength, 1)) (h : shp t = (a, b)) (ha : a < 2) (hb : b < 2147483648) (kk : E Y d mc ms Q B k n (pc + 1) ls (vI (b : Int) :: st) σ) : E Y d mc ms Q B k n pc ls (vR t i :: st) σ := by
  refine E_lift ?_ kk
  intro p l e s m args below meth c H locs cs D A ad Z lc sc hC hK hS hR hl hs kk
  obtain ⟨_, sc, rfl, ⟨hm, rfl⟩, hs2⟩ := sr_1 hs
  obtain ⟨q, hq1, hq2⟩ := wl_at (cs := cs) (ad := ad) (σ := σ) (hm.resolve_right (out_arr h (by omega)))
  have e : (Int32.ofNat b).toInt = (b : Int) := nI_toInt (by omega)
  rcases (show a = 0 ∨ a = 1 by omega) with rfl | rfl
  · exact va_alen hC.1 hC.2.1 hK.1 hR.1 q 0 (cA := cs 0) (x := (b, .inl (fun j => Int32.ofInt (σ t i j)))) (by rw [hq2, ce_int h (by decide) (by decide)]) (ty := .int) rfl rfl hd (kk H locs lc _ hS hR hl ⟨rl_int _ e, hs2⟩)
  · exact va_alen hC.1 hC.2.1 hK.1 hR.1 q 1 (cA := cs 1) (x := (b, .inr (.inl (fun j => Int64.ofInt (σ t i j))))) (by rw [hq2, ce_lng h]) (ty := .long) rfl rfl hd (kk H locs lc _ hS hR hl ⟨rl_int _ e, hs2⟩)
theorem E_aald {t i a b t' i' : Nat} {x : Int} (hd : decode Y.2.1 pc = .ok (.aaload, 1)) (h : shp t = (a, b)) (h4 : 4 ≤ a) (h7 : a < 7) (h0 : 0 ≤ x) (h1 : x < (b : Int)) (hB : B.2 t i x.toNat = true) (hg : go σ t i x.toNat = (t', i')) (kk : E Y d mc ms Q B k n (pc + 1) ls (vR t' i' :: st) σ) : E Y d mc ms Q B k n pc ls (vI x :: vR t i :: st) σ := by
  refine E_lift ?_ kk
  intro p l e s m args below meth c H locs cs D A ad Z lc sc hC hK hS hR hl hs kk
  obtain ⟨_, sc, rfl, ⟨x', rfl, rfl⟩, hs1⟩ := sr_1 hs
  obtain ⟨_, sc, rfl, ⟨hm, rfl⟩, hs2⟩ := sr_1 hs1
  have hm := hm.resolve_right (out_arr h (by omega))
  obtain ⟨q, hq1, hq2⟩ := wl_at (cs := cs) (ad := ad) (σ := σ) hm
  have hcl := hR.2.2.2 _ hm x'.toInt.toNat (by unfold rfp; rw [if_neg (arr_ge h (by omega)), show (shp (t, i).1) = (a, b) from h]; exact decide_eq_true h4) hB
  rw [show go σ (t, i).1 (t, i).2 x'.toInt.toNat = (t', i') from hg] at hcl
  have hv : rfv B ad σ t i x'.toNatClampNeg = some (ad t' i') := by
    unfold rfv
    rw [show x'.toNatClampNeg = x'.toInt.toNat from rfl, hg, if_pos hB]
  have hlt : x'.toNatClampNeg < b := by have := clamp32 h0; omega
  have hval := hR.1 q _ hq2
  rw [ce_ref h h4 (by omega)] at hval
  obtain ⟨ty, hty, hrf⟩ : ∃ ty : FieldType, (tys cs)[a]? = some (cs a, ty) ∧ ty.isReference = true := by
    rcases (show a = 4 ∨ a = 5 ∨ a = 6 by omega) with rfl | rfl | rfl
    · exact ⟨_, rfl, rfl⟩
    · exact ⟨_, rfl, rfl⟩
    · exact ⟨_, rfl, rfl⟩
  exact W.aald (v := va_rf (rfv B ad σ t i x'.toNatClampNeg)) (ty := ty) hC.1 hC.2.1 hval ((hK.1.2 a _ hty).1 b (fun j => va_rf (rfv B ad σ t i j))) hrf (fun q => by cases q) (by show ¬ (x' < 0 ∨ (arrV _ _ _).slots.size ≤ _); rw [arrV_size]; exact vin h0 h1) (by show (arrV _ _ _).slots[_]? = _; rw [arrV_read _ _ hlt]) rfl rfl hd (by rw [hv]; exact kk H locs lc _ hS hR hl ⟨⟨Or.inl hcl, rfl⟩, hs2⟩)
end ERules3

