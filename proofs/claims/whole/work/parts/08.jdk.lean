section ERules5
variable {Y : My} {d mc ms : Nat} {Q : Option AV → Wd → St → Prop} {B : Wd} {k n pc : Nat} {ls : List (Option AV)} {st : List AV} {σ : St}
theorem jm_max_s : Cond.static Lib.Math.max.name ∈ tG := inG (i := 594) (by decide +kernel) (by decide +kernel)
theorem jm_max_c : Cond.code Lib.Math.max.name Lib.Math.max.code 2 (some .int) ∈ tG := inG (i := 595) (by decide +kernel) (by decide +kernel)
theorem jm_min_s : Cond.static Lib.Math.min.name ∈ tG := inG (i := 597) (by decide +kernel) (by decide +kernel)
theorem jm_min_c : Cond.code Lib.Math.min.name Lib.Math.min.code 2 (some .int) ∈ tG := inG (i := 598) (by decide +kernel) (by decide +kernel)
theorem jm_ini : Cond.initialized "java/lang/Math" ∈ tG := inG (i := 113) (by decide +kernel) (by decide +kernel)
theorem jc_n : Cond.native arraycopyName ∈ tG := inG (i := 846) (by decide +kernel) (by decide +kernel)
theorem jc_s : Cond.static arraycopyName ∈ tG := inG (i := 845) (by decide +kernel) (by decide +kernel)
theorem jc_ini : Cond.initialized "java/lang/System" ∈ tG := inG (i := 117) (by decide +kernel) (by decide +kernel)
theorem E_mmax {index : Nat} {x y : Int} (hd : decode Y.2.1 pc = .ok (.invokestatic index, 3)) (hL : Cond.methodLink Y.1.cls index Lib.Math.max.name ∈ tG) (hdd : 1 ≤ d) (hk : k ≤ mc) (hn : n ≤ ms) (hcat : cat st ≤ 8) (kk : E Y d mc ms Q B k n (pc + 3) ls (vI (max x y) :: st) σ) : E Y d mc ms Q B k n pc ls (vI y :: vI x :: st) σ := by
  refine E_lift ?_ kk
  intro p l e s m args below meth c H locs cs D A ad Z lc sc hC hK hS hR hl hs kk
  obtain ⟨_, sc, rfl, ⟨y', rfl, rfl⟩, hs1⟩ := sr_1 hs
  obtain ⟨_, sc, rfl, ⟨x', rfl, rfl⟩, hs2⟩ := sr_1 hs1
  have hts := hC.2.2.2.2.2.1
  refine va_mmax hC.1 hC.2.1 (hC.2.2.2.1.trans hl.1.symm) hC.2.2.2.2.1 (hts _ hL) (hts _ jm_max_s) (hts _ jm_ini) (hts _ jm_max_c) hdd (by rw [cat_sr hs2]; show cat st + 13 ≤ 64 * d; omega) hk hn hd (kk H locs lc _ hS hR hl ⟨rl_int _ ?_, hs2⟩)
  by_cases h : x' < y'
  · rw [if_pos h]; have := Int32.lt_iff_toInt_lt.mp h; omega
  · rw [if_neg h]; have : ¬ x'.toInt < y'.toInt := fun q => h (Int32.lt_iff_toInt_lt.mpr q); omega
theorem E_mmin {index : Nat} {x y : Int} (hd : decode Y.2.1 pc = .ok (.invokestatic index, 3)) (hL : Cond.methodLink Y.1.cls index Lib.Math.min.name ∈ tG) (hdd : 1 ≤ d) (hk : k ≤ mc) (hn : n ≤ ms) (hcat : cat st ≤ 8) (kk : E Y d mc ms Q B k n (pc + 3) ls (vI (min x y) :: st) σ) : E Y d mc ms Q B k n pc ls (vI y :: vI x :: st) σ := by
  refine E_lift ?_ kk
  intro p l e s m args below meth c H locs cs D A ad Z lc sc hC hK hS hR hl hs kk
  obtain ⟨_, sc, rfl, ⟨y', rfl, rfl⟩, hs1⟩ := sr_1 hs
  obtain ⟨_, sc, rfl, ⟨x', rfl, rfl⟩, hs2⟩ := sr_1 hs1
  have hts := hC.2.2.2.2.2.1
  refine va_mmin hC.1 hC.2.1 (hC.2.2.2.1.trans hl.1.symm) hC.2.2.2.2.1 (hts _ hL) (hts _ jm_min_s) (hts _ jm_ini) (hts _ jm_min_c) hdd (by rw [cat_sr hs2]; show cat st + 13 ≤ 64 * d; omega) hk hn hd (kk H locs lc _ hS hR hl ⟨rl_int _ ?_, hs2⟩)
  split <;> rename_i h
  · first
      | (have h2 := Int32.lt_iff_toInt_lt.mp h; omega)
      | (have h2 := Int32.le_iff_toInt_le.mp h; omega)
  · first
      | (have h2 : ¬ x'.toInt < y'.toInt := fun q => h (Int32.lt_iff_toInt_lt.mpr q); omega)
      | (have h2 : ¬ y'.toInt < x'.toInt := fun q => h (Int32.lt_iff_toInt_lt.mpr q); omega)
      | (have h2 : ¬ x'.toInt ≤ y'.toInt := fun q => h (Int32.le_iff_toInt_le.mpr q); omega)
def cp (σ : St) (t i : Nat) (sp : Int) (t' i' : Nat) (dp m : Int) : St := fun a b c => if a = t' ∧ b = i' ∧ dp ≤ c ∧ c < dp + m then σ t i (sp + (c - dp)) else σ a b c
theorem cp_ne {σ : St} {t i t' i' a b : Nat} {sp dp m c : Int} (h : (a, b) ≠ (t', i')) : cp σ t i sp t' i' dp m a b c = σ a b c := by
  unfold cp
  rw [if_neg]
  rintro ⟨rfl, rfl, -⟩
  exact h rfl
theorem cp_go {σ : St} {t i t' i' a b j : Nat} {sp dp m : Int} (h : t' ≠ 600) : go (cp σ t i sp t' i' dp m) a b j = go σ a b j := by
  unfold go
  split
  · rfl
  · split
    · rename_i e
      rw [cp_ne (fun q => h ((congrArg Prod.fst q).symm))]
    · rfl
theorem acp_room {ad : Ad} {sc : List Value} (hdd : 1 ≤ d) (hcat : cat st ≤ 8) (hs : sr B ad sc st) : (sc.map fun v => v.category).sum + (nativeFrameWords "java/lang/System" "arraycopy" 5 + 11) ≤ (rmo d mc ms).locals := by
  rw [cat_sr hs]
  have h : nativeFrameWords "java/lang/System" "arraycopy" 5 + 11 ≤ 40 := by decide
  show cat st + _ ≤ 64 * d
  omega
theorem E_acpi {index t i t' i' b b' : Nat} {sp dp m : Int} (hd : decode Y.2.1 pc = .ok (.invokestatic index, 3)) (hL : Cond.methodLink Y.1.cls index arraycopyName ∈ tG) (hdd : 1 ≤ d) (hcat : cat st ≤ 8) (ha : shp t = (0, b)) (ha' : shp t' = (0, b')) (h1 : 0 ≤ sp) (h2 : 0 ≤ dp) (h3 : 0 ≤ m) (h4 : sp + m ≤ (b : Int)) (h5 : dp + m ≤ (b' : Int)) (kk : E Y d mc ms Q B k n (pc + 3) ls st (cp σ t i sp t' i' dp m)) : E Y d mc ms Q B k n pc ls (vI m :: vI dp :: vR t' i' :: vI sp :: vR t i :: st) σ := by
  refine E_lift ?_ kk
  intro p l e s m0 args below meth c H locs cs D A ad Z lc sc hC hK hS hR hl hs kk
  obtain ⟨_, sc, rfl, ⟨m', rfl, rfl⟩, hs1⟩ := sr_1 hs
  obtain ⟨_, sc, rfl, ⟨dp', rfl, rfl⟩, hs2⟩ := sr_1 hs1
  obtain ⟨_, sc, rfl, ⟨hm', rfl⟩, hs3⟩ := sr_1 hs2
  obtain ⟨_, sc, rfl, ⟨sp', rfl, rfl⟩, hs4⟩ := sr_1 hs3
  obtain ⟨_, sc, rfl, ⟨hm, rfl⟩, hs5⟩ := sr_1 hs4
  have hts := hC.2.2.2.2.2.1
  obtain ⟨q, hq1, hq2⟩ := wl_at (cs := cs) (ad := ad) (σ := σ) (hm.resolve_right (out_arr ha (by decide)))
  obtain ⟨q', hq1', hq2'⟩ := wl_at (cs := cs) (ad := ad) (σ := σ) (hm'.resolve_right (out_arr ha' (by decide)))
  have c1 := clamp32 h1
  have c2 := clamp32 h2
  have c3 := clamp32 h3
  have n0 : ∀ {x : Int32}, 0 ≤ x.toInt → ¬ x < 0 := fun h q => by have := (z32_lt _).mp q; omega
  refine va_copyi (ty := .int) (rest := sc) hC.1 hC.2.1 (hC.2.2.2.1.trans hl.1.symm) hC.2.2.2.2.1 (hts _ hL) (hts _ jc_n) (hts _ jc_s) (hts _ jc_ini) hK.1 hR.1 hR.2.1 hS q q' 0 0 (c0 := cs 0) (c1 := cs 0) (f := fun j => Int32.ofInt (σ t i j)) (g := fun j => Int32.ofInt (σ t' i' j)) (by rw [hq2, ce_int ha (by decide) (by decide)]) (by rw [hq2', ce_int ha' (by decide) (by decide)]) rfl rfl rfl (n0 h1) (n0 h2) (n0 h3) (by omega) (by omega) (fun _ _ => rfl) hdd (acp_room hdd hcat hs5) hd (fun H1 locs1 hP1 hD1 hS1 => ?_)
  refine kk H1 locs1 lc sc hS1 ?_ hl hs5
  have he : (.inl (cs 0, b', .inl (va_cpy (fun j => Int32.ofInt (σ t i j)) (fun j => Int32.ofInt (σ t' i' j)) sp'.toNatClampNeg dp'.toNatClampNeg m'.toNatClampNeg)) : va_E) = ce cs B ad (cp σ t i sp'.toInt t' i' dp'.toInt m'.toInt) t' i' := by
    rw [ce_int ha' (by decide) (by decide)]
    congr 3
    congr 1
    funext j
    unfold va_cpy cp
    by_cases hj : dp'.toNatClampNeg ≤ j ∧ j < dp'.toNatClampNeg + m'.toNatClampNeg
    · rw [if_pos hj, if_pos ⟨rfl, rfl, by omega, by omega⟩, show sp'.toInt + ((j : Int) - dp'.toInt) = ((sp'.toNatClampNeg + (j - dp'.toNatClampNeg) : Nat) : Int) by omega]
    · rw [if_neg hj, if_neg]
      rintro ⟨-, -, u1, u2⟩
      exact hj ⟨by omega, by omega⟩
  have hs' := wl_set (cs := cs) (ad := ad) (σ' := cp σ t i sp'.toInt t' i' dp'.toInt m'.toInt) hR.2.1 hq1' (fun r _ hne => ce_congr (fun x => cp_ne (fun a => hne a)))
  rw [he, show (t', i').1 = t' from rfl, hs'] at hP1 hD1
  refine ⟨hP1, hD1, fun a b j => ?_, fun r hr j g1 g2 => ?_⟩
  · unfold cp
    by_cases hc : a = t' ∧ b = i' ∧ dp'.toInt ≤ (j : Int) ∧ (j : Int) < dp'.toInt + m'.toInt
    · obtain ⟨rfl, rfl, u1, u2⟩ := hc
      rw [lgp_arr ha' (by decide), if_neg (by decide), if_pos ⟨rfl, rfl, u1, u2⟩]
      have := hR.2.2.1 t i (sp'.toNatClampNeg + (j - dp'.toNatClampNeg))
      rw [lgp_arr ha (by decide), if_neg (by decide)] at this
      rw [show sp'.toInt + ((j : Int) - dp'.toInt) = ((sp'.toNatClampNeg + (j - dp'.toNatClampNeg) : Nat) : Int) by omega]
      exact this
    · rw [if_neg hc]
      exact hR.2.2.1 a b j
  · rw [cp_go (t600 ha' (by decide))]
    exact hR.2.2.2 r hr j g1 g2
theorem E_acpl {index t i t' i' b b' : Nat} {sp dp m : Int} (hd : decode Y.2.1 pc = .ok (.invokestatic index, 3)) (hL : Cond.methodLink Y.1.cls index arraycopyName ∈ tG) (hdd : 1 ≤ d) (hcat : cat st ≤ 8) (ha : shp t = (1, b)) (ha' : shp t' = (1, b')) (h1 : 0 ≤ sp) (h2 : 0 ≤ dp) (h3 : 0 ≤ m) (h4 : sp + m ≤ (b : Int)) (h5 : dp + m ≤ (b' : Int)) (kk : E Y d mc ms Q B k n (pc + 3) ls st (cp σ t i sp t' i' dp m)) : E Y d mc ms Q B k n pc ls (vI m :: vI dp :: vR t' i' :: vI sp :: vR t i :: st) σ := by
  refine E_lift ?_ kk
  intro p l e s m0 args below meth c H locs cs D A ad Z lc sc hC hK hS hR hl hs kk
  obtain ⟨_, sc, rfl, ⟨m', rfl, rfl⟩, hs1⟩ := sr_1 hs
  obtain ⟨_, sc, rfl, ⟨dp', rfl, rfl⟩, hs2⟩ := sr_1 hs1
  obtain ⟨_, sc, rfl, ⟨hm', rfl⟩, hs3⟩ := sr_1 hs2
  obtain ⟨_, sc, rfl, ⟨sp', rfl, rfl⟩, hs4⟩ := sr_1 hs3
  obtain ⟨_, sc, rfl, ⟨hm, rfl⟩, hs5⟩ := sr_1 hs4
  have hts := hC.2.2.2.2.2.1
  obtain ⟨q, hq1, hq2⟩ := wl_at (cs := cs) (ad := ad) (σ := σ) (hm.resolve_right (out_arr ha (by decide)))
  obtain ⟨q', hq1', hq2'⟩ := wl_at (cs := cs) (ad := ad) (σ := σ) (hm'.resolve_right (out_arr ha' (by decide)))
  have c1 := clamp32 h1
  have c2 := clamp32 h2
  have c3 := clamp32 h3
  have n0 : ∀ {x : Int32}, 0 ≤ x.toInt → ¬ x < 0 := fun h q => by have := (z32_lt _).mp q; omega
  refine va_copyl (ty := .long) (rest := sc) hC.1 hC.2.1 (hC.2.2.2.1.trans hl.1.symm) hC.2.2.2.2.1 (hts _ hL) (hts _ jc_n) (hts _ jc_s) (hts _ jc_ini) hK.1 hR.1 hR.2.1 hS q q' 1 1 (c0 := cs 1) (c1 := cs 1) (f := fun j => Int64.ofInt (σ t i j)) (g := fun j => Int64.ofInt (σ t' i' j)) (by rw [hq2, ce_lng ha]) (by rw [hq2', ce_lng ha']) rfl rfl rfl (n0 h1) (n0 h2) (n0 h3) (by omega) (by omega) (fun _ _ => rfl) hdd (acp_room hdd hcat hs5) hd (fun H1 locs1 hP1 hD1 hS1 => ?_)
  refine kk H1 locs1 lc sc hS1 ?_ hl hs5
  have he : (.inl (cs 1, b', .inr (.inl (va_cpy (fun j => Int64.ofInt (σ t i j)) (fun j => Int64.ofInt (σ t' i' j)) sp'.toNatClampNeg dp'.toNatClampNeg m'.toNatClampNeg))) : va_E) = ce cs B ad (cp σ t i sp'.toInt t' i' dp'.toInt m'.toInt) t' i' := by
    rw [ce_lng ha']
    congr 3
    congr 2
    funext j
    unfold va_cpy cp
    by_cases hj : dp'.toNatClampNeg ≤ j ∧ j < dp'.toNatClampNeg + m'.toNatClampNeg
    · rw [if_pos hj, if_pos ⟨rfl, rfl, by omega, by omega⟩, show sp'.toInt + ((j : Int) - dp'.toInt) = ((sp'.toNatClampNeg + (j - dp'.toNatClampNeg) : Nat) : Int) by omega]
    · rw [if_neg hj, if_neg]
      rintro ⟨-, -, u1, u2⟩
      exact hj ⟨by omega, by omega⟩
  have hs' := wl_set (cs := cs) (ad := ad) (σ' := cp σ t i sp'.toInt t' i' dp'.toInt m'.toInt) hR.2.1 hq1' (fun r _ hne => ce_congr (fun x => cp_ne (fun a => hne a)))
  rw [he, show (t', i').1 = t' from rfl, hs'] at hP1 hD1
  refine ⟨hP1, hD1, fun a b j => ?_, fun r hr j g1 g2 => ?_⟩
  · unfold cp
    by_cases hc : a = t' ∧ b = i' ∧ dp'.toInt ≤ (j : Int) ∧ (j : Int) < dp'.toInt + m'.toInt
    · obtain ⟨rfl, rfl, u1, u2⟩ := hc
      rw [lgp_arr ha' (by decide), if_pos (by decide), if_pos ⟨rfl, rfl, u1, u2⟩]
      have := hR.2.2.1 t i (sp'.toNatClampNeg + (j - dp'.toNatClampNeg))
      rw [lgp_arr ha (by decide), if_pos (by decide)] at this
      rw [show sp'.toInt + ((j : Int) - dp'.toInt) = ((sp'.toNatClampNeg + (j - dp'.toNatClampNeg) : Nat) : Int) by omega]
      exact this
    · rw [if_neg hc]
      exact hR.2.2.1 a b j
  · rw [cp_go (t600 ha' (by decide))]
    exact hR.2.2.2 r hr j g1 g2
end ERules5
