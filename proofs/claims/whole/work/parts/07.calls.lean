theorem nestW_shape : ∀ w ∈ nestW, ∃ a i x h, w = Cond.methodLinkNest a i x h := by
  intro w hw
  have h := (List.mem_filter.mp hw).2
  split at h
  · exact ⟨_, _, _, _, rfl⟩
  · cases h
theorem GridK.moved {cs : Nat → ClassId} {u U : State} (hvm : u.vm.Alike U.vm) (h : GridK cs u) : GridK cs U := by
  obtain ⟨k, h1, h2⟩ := h
  obtain ⟨k', hk', he⟩ := hvm.2.2 _ _ h1
  exact ⟨k', hk', by rw [he]; exact h2⟩
theorem xW_shape : ∀ w ∈ xW, (∃ a b, w = Cond.castable a b) ∨ ∃ x, w = Cond.declares x := by
  intro w hw
  have h := (List.mem_filter.mp hw).2
  split at h
  · exact Or.inl ⟨_, _, rfl⟩
  · exact Or.inr ⟨_, rfl⟩
  · cases h
theorem Kx.warm {cs : Nat → ClassId} {D : va_G} {A : Nat → Prop} {ad : Ad} {s U : State} {H : Heap} {locs : List Loc} (hW : s.WarmedH U.vm) (hH : U.heap = H) (hS : va_S A s.heap H locs) (h : Kx cs D A ad s s.heap) : Kx cs D A ad U U.heap := by
  obtain ⟨h1, h2, h3, h4, h5, h6, z1, z2, z3, z4, z5, z6, z7, z8, z9⟩ := h
  subst hH
  refine ⟨va_K.moved hW.alike h1, fun w hw => ?_, vk_S.moved hW.alike (h3.kept hS.2.1), fun q hq => (h4 q hq).warm hW, va_Z.moved hW.alike (h5.kept hS.2.1), va_Zq.moved hW.alike (h6.kept hS.2.1), fun w hw => ?_, z2.moved hW.alike, z3.moved hW.alike, z4.moved hW.alike, vx_Zq.moved hW.alike (z5.kept hS.2.1), vx_Zq.moved hW.alike (z6.kept hS.2.1), va_X.moved hW.alike (z7.kept (hS.2.1 _ z9 z8)), z8, Nat.lt_of_lt_of_le z9 hS.1⟩
  · obtain ⟨a, i, x, g, rfl⟩ := nestW_shape w hw
    exact va_Nw.warmM hW (h2 _ hw)
  · rcases xW_shape w hw with ⟨a, b, rfl⟩ | ⟨x, rfl⟩
    · exact va_Nw.warmC hW (z1 _ hw)
    · exact va_Nw.warmD hW (z1 _ hw)
theorem Kx.blind {cs : Nat → ClassId} {D : va_G} {A : Nat → Prop} {ad : Ad} {U : State} {g : JFrame} {mk : MethodId} {a : Array Value} (h : Kx cs D A ad U U.heap) : Kx cs D A ad (U.calling g mk a) (U.calling g mk a).heap := by
  obtain ⟨h1, h2, h3, h4, h5, h6, z1, z2, z3, z4, z5, z6, z7, z8, z9⟩ := h
  refine ⟨va_K.moved (u := U) (Vm.Alike.refl U.vm) h1, fun w hw => ?_, vk_S.moved (u := U) (Vm.Alike.refl U.vm) h3, fun q hq => (h4 q hq).same rfl, va_Z.moved (u := U) (Vm.Alike.refl U.vm) h5, va_Zq.moved (u := U) (Vm.Alike.refl U.vm) h6, fun w hw => ?_, z2.moved (u := U) (Vm.Alike.refl U.vm), z3.moved (u := U) (Vm.Alike.refl U.vm), z4.moved (u := U) (Vm.Alike.refl U.vm), vx_Zq.moved (u := U) (Vm.Alike.refl U.vm) z5, vx_Zq.moved (u := U) (Vm.Alike.refl U.vm) z6, va_X.moved (u := U) (Vm.Alike.refl U.vm) z7, z8, z9⟩
  · obtain ⟨b, i, x, f, rfl⟩ := nestW_shape w hw
    exact va_Nw.same rfl rfl (h2 _ hw)
  · rcases xW_shape w hw with ⟨a, b, rfl⟩ | ⟨x, rfl⟩
    · exact va_Nw.same rfl rfl (z1 _ hw)
    · exact va_Nw.same rfl rfl (z1 _ hw)
theorem Kx.ext {cs : Nat → ClassId} {D : va_G} {A : Nat → Prop} {B B' : Wd} {ad ad' : Ad} {s : State} {H : Heap} (hX : Ext B ad B' ad') (h : Kx cs D A ad s H) : Kx cs D A ad' s H := by
  have e0 : ad' 50 = ad 50 := funext fun i => hX.2 (50, i) (Or.inr (Or.inl rfl))
  have e1 : ad' 51 = ad 51 := funext fun i => hX.2 (51, i) (Or.inr (Or.inr (Or.inl rfl)))
  have e2 : ad' 52 = ad 52 := funext fun i => hX.2 (52, i) (Or.inr (Or.inr (Or.inr rfl)))
  unfold Kx Kz ScrX
  rw [e0, e1, e2]
  exact h
/-- the locals at a method's entry -/
def ea : List AV → List (Option AV)
  | [] => []
  | .inl z :: as => some (.inl z) :: ea as
  | .inr (.inl z) :: as => some (.inr (.inl z)) :: none :: ea as
  | .inr (.inr r) :: as => some (.inr (.inr r)) :: ea as
theorem lg_sl_len {B : Wd} {ad : Ad} : ∀ {vs : List Value} {as : List AV}, sr B ad vs as → (lg_sl vs).length = (ea as).length
  | [], [], _ => rfl
  | v :: vs, .inl z :: as, h => by
    obtain ⟨⟨x, rfl, -⟩, h2⟩ := h
    have := lg_sl_len h2
    simp [lg_sl, ea, Value.category] at this ⊢
    exact this
  | v :: vs, .inr (.inl z) :: as, h => by
    obtain ⟨⟨x, rfl, -⟩, h2⟩ := h
    have := lg_sl_len h2
    simp [lg_sl, ea, Value.category] at this ⊢
    omega
  | v :: vs, .inr (.inr r) :: as, h => by
    obtain ⟨⟨-, rfl⟩, h2⟩ := h
    have := lg_sl_len h2
    simp [lg_sl, ea, Value.category] at this ⊢
    exact this
theorem ea_in {B : Wd} {ad : Ad} : ∀ {vs : List Value} {as : List AV} (off : Nat), sr B ad vs as → ∀ (i : Nat) (a : AV), (ea as)[i]? = some (some a) → ∃ v, (off + i, v) ∈ lv_args off vs ∧ rl B ad v a
  | [], [], _, _, i, a, h => by simp [ea] at h
  | v :: vs, .inl z :: as, off, h, i, a, he => by
    obtain ⟨h1, h2⟩ := h
    obtain ⟨x, rfl, hx⟩ := h1
    match i, he with
    | 0, he => simp [ea] at he; subst he; exact ⟨_, List.mem_cons_self, x, rfl, hx⟩
    | i + 1, he =>
      obtain ⟨w, hw, hr⟩ := ea_in (off + 1) h2 i a (by simpa [ea] using he)
      refine ⟨w, List.mem_cons_of_mem _ ?_, hr⟩
      rw [if_neg (by simp [Value.category])]
      rw [show off + (i + 1) = off + 1 + i by omega]
      exact hw
  | v :: vs, .inr (.inl z) :: as, off, h, i, a, he => by
    obtain ⟨h1, h2⟩ := h
    obtain ⟨x, rfl, hx⟩ := h1
    match i, he with
    | 0, he => simp [ea] at he; subst he; exact ⟨_, List.mem_cons_self, x, rfl, hx⟩
    | 1, he => simp [ea] at he
    | i + 2, he =>
      obtain ⟨w, hw, hr⟩ := ea_in (off + 2) h2 i a (by simpa [ea] using he)
      refine ⟨w, List.mem_cons_of_mem _ ?_, hr⟩
      rw [if_pos (by simp [Value.category])]
      rw [show off + (i + 2) = off + 2 + i by omega]
      exact hw
  | v :: vs, .inr (.inr r) :: as, off, h, i, a, he => by
    obtain ⟨h1, h2⟩ := h
    obtain ⟨hx, rfl⟩ := h1
    match i, he with
    | 0, he => simp [ea] at he; subst he; exact ⟨_, List.mem_cons_self, hx, rfl⟩
    | i + 1, he =>
      obtain ⟨w, hw, hr⟩ := ea_in (off + 1) h2 i a (by simpa [ea] using he)
      refine ⟨w, List.mem_cons_of_mem _ ?_, hr⟩
      rw [if_neg (by simp [Value.category])]
      rw [show off + (i + 1) = off + 1 + i by omega]
      exact hw
theorem lr_entry {B : Wd} {ad : Ad} {vs : List Value} {as : List AV} {nn : Nat} (h : sr B ad vs as) (hn : (ea as).length ≤ nn) : lr B ad ((lg_sl vs ++ List.replicate (nn - (lg_sl vs).length) Slot.unset).toArray) nn (ea as ++ List.replicate (nn - (ea as).length) none) := by
  have hl := lv_entry vs (n := nn) (by rw [lg_sl_len h]; exact hn)
  refine ⟨hl.1, hl.2.1, fun i a he => ?_⟩
  by_cases hi : i < (ea as).length
  · rw [List.getElem?_append_left hi] at he
    obtain ⟨v, hv, hr⟩ := ea_in 0 h i a he
    rw [Nat.zero_add] at hv
    exact ⟨v, hl.2.2 _ hv, hr⟩
  · rw [List.getElem?_append_right (by omega), List.getElem?_replicate] at he
    split at he <;> simp at he
theorem Cn_of {Y : My} {d mc ms : Nat} {Q : Option AV → Wd → St → Prop} {B : Wd} {σ : St} {as : List AV} (ls : List (Option AV)) (hp : (plainName Y.1.cls && kd Y.1 == 0) = true) (hn : (ea as).length ≤ Y.2.2.1) (hls : ea as ++ List.replicate (Y.2.2.1 - (ea as).length) none = ls) (h : E Y d mc ms Q B 0 0 0 ls [] σ) : Cn Y d mc ms B σ as Q := by
  intro l cs D A ad vs
  rw [Bool.and_eq_true, beq_iff_eq] at hp
  obtain ⟨hp, h0⟩ := hp
  refine Met.ofW (cc := Y.2.1) (maxL := Y.2.2.1) (ret := Y.2.2.2) hp rfl ?_
  intro p e s m args below meth c s₁ Bd hml hv
  obtain ⟨rfl, hK, hA, hR, hsr⟩ := hv
  have hts := atoms_spec (ws := wsY Y) Bd.pre
  rw [lg_entry_eq]
  have ht : c.exceptionTable.toList = tbl Y.1 := by
    obtain ⟨meth9, c9, h1, h2, -, -, -, -, h7, -⟩ := Cond.code_spec Bd.named (hts _ List.mem_cons_self)
    cases Option.some.inj (h1.symm.trans Bd.method)
    cases Option.some.inj (h2.symm.trans (Stand.of_body Bd).code)
    rw [Array.isEmpty_iff.mp h7, tbl, if_neg (by rw [h0]; decide)]
  have hE := h p l e s m _ below meth c s.heap [] cs D A ad ad B _ [] ⟨Bd.exec, Bd.bytes, Bd.returns, hml, findClass_of_methodNamed Bd.named, fun w hw => hts w (List.mem_cons_of_mem _ hw), Bd.notSynchronized, (name_of_methodNamed Bd.named Bd.method).1, ht⟩ hK hA va_S.rf hR Ext.rf (hls ▸ lr_entry hsr hn) trivial
  unfold EZ at hE
  rw [if_neg (by rw [h0]; decide)] at hE
  exact hE
theorem Cn.mono {Y : My} {d mc ms : Nat} {Q Q' : Option AV → Wd → St → Prop} {B : Wd} {σ : St} {as : List AV} (h : Cn Y d mc ms B σ as Q) (hq : ∀ r B σ, Q r B σ → Q' r B σ) : Cn Y d mc ms B σ as Q' := by
  intro l cs D A ad vs
  refine MetFree.mono (h l cs D A ad vs) (fun _ _ h => h) (fun _ _ _ _ _ h => h) ?_
  rintro a st o t - ⟨⟨⟨r, B, σ, ad, h1, h2, h3⟩, h4⟩, h5⟩
  exact ⟨⟨⟨r, B, σ, ad, h1, hq _ _ _ h2, h3⟩, h4⟩, h5⟩
section ERules4
variable {Y : My} {d mc ms : Nat} {Q : Option AV → Wd → St → Prop} {B : Wd} {k n pc : Nat} {ls : List (Option AV)} {st : List AV} {σ : St}
theorem sr_0 {B : Wd} {ad : Ad} {sc : List Value} (h : sr B ad sc []) : sc = [] := by
  match sc, h with
  | [], _ => rfl
theorem E_iret {z : Int} (hd : decode Y.2.1 pc = .ok (.ireturn, 1)) (hr : Y.2.2.2 = some .int) (hq : Q (some (vI z)) B σ) : E Y d k n Q B k n pc ls [vI z] σ := by
  intro p l e s m args below meth c H locs cs D A ad ad0 B0 lc sc hC hK hA hS hR hX hl hs
  obtain ⟨_, sc, rfl, ⟨x, rfl, rfl⟩, hs1⟩ := sr_1 hs
  have := sr_0 hs1
  subst this
  exact W_EZ <| W.iret hC.1 hC.2.1 (hC.2.2.1.trans hr) (fun t ht hW => ⟨⟨some (vI x.toInt), B, σ, ad, ⟨_, rfl, rl_int x rfl⟩, hq, by rw [ht]; exact hR, hX⟩, hS.F ht⟩) hS.2.2 hd hC.2.2.2.2.2.2.1
theorem E_zret {z : Int} (hd : decode Y.2.1 pc = .ok (.ireturn, 1)) (hr : Y.2.2.2 = some .boolean) (hz : z = 0 ∨ z = 1) (hq : Q (some (vI z)) B σ) : E Y d k n Q B k n pc ls [vI z] σ := by
  intro p l e s m args below meth c H locs cs D A ad ad0 B0 lc sc hC hK hA hS hR hX hl hs
  obtain ⟨_, sc, rfl, ⟨x, rfl, rfl⟩, hs1⟩ := sr_1 hs
  have := sr_0 hs1
  subst this
  have hx : x = 0 ∨ x = 1 := hz.imp (fun h => Int32.toInt_inj.mp h) (fun h => Int32.toInt_inj.mp h)
  exact W_EZ <| W.zret hC.1 hC.2.1 (hC.2.2.1.trans hr) (by rcases hx with rfl | rfl <;> rfl) (fun t ht hW => ⟨⟨some (vI x.toInt), B, σ, ad, ⟨_, rfl, rl_int x rfl⟩, hq, by rw [ht]; exact hR, hX⟩, hS.F ht⟩) hS.2.2 hd hC.2.2.2.2.2.2.1
theorem E_cret {z : Int} (hd : decode Y.2.1 pc = .ok (.ireturn, 1)) (hr : Y.2.2.2 = some .char) (hz0 : 0 ≤ z) (hz1 : z < 65536) (hq : Q (some (vI z)) B σ) : E Y d k n Q B k n pc ls [vI z] σ := by
  intro p l e s m args below meth c H locs cs D A ad ad0 B0 lc sc hC hK hA hS hR hX hl hs
  obtain ⟨_, sc, rfl, ⟨x, rfl, rfl⟩, hs1⟩ := sr_1 hs
  have := sr_0 hs1
  subst this
  have hn := nar_char hz0 hz1
  exact W_EZ <| W.zret hC.1 hC.2.1 (hC.2.2.1.trans hr) (by unfold vp_nar at hn; simp only [narrow] at hn ⊢; rw [hn]) (fun t ht hW => ⟨⟨some (vI x.toInt), B, σ, ad, ⟨_, rfl, rl_int x rfl⟩, hq, by rw [ht]; exact hR, hX⟩, hS.F ht⟩) hS.2.2 hd hC.2.2.2.2.2.2.1
theorem E_lret {z : Int} (hd : decode Y.2.1 pc = .ok (.lreturn, 1)) (hr : Y.2.2.2 = some .long) (hq : Q (some (vL z)) B σ) : E Y d k n Q B k n pc ls [vL z] σ := by
  intro p l e s m args below meth c H locs cs D A ad ad0 B0 lc sc hC hK hA hS hR hX hl hs
  obtain ⟨_, sc, rfl, ⟨x, rfl, rfl⟩, hs1⟩ := sr_1 hs
  have := sr_0 hs1
  subst this
  exact W_EZ <| W.lret hC.1 hC.2.1 (hC.2.2.1.trans hr) (fun t ht hW => ⟨⟨some (vL x.toInt), B, σ, ad, ⟨_, rfl, rl_lng x rfl⟩, hq, by rw [ht]; exact hR, hX⟩, hS.F ht⟩) hS.2.2 hd hC.2.2.2.2.2.2.1
theorem E_vret (hd : decode Y.2.1 pc = .ok (.return_, 1)) (hr : Y.2.2.2 = none) (hq : Q none B σ) : E Y d k n Q B k n pc ls [] σ := by
  intro p l e s m args below meth c H locs cs D A ad ad0 B0 lc sc hC hK hA hS hR hX hl hs
  have := sr_0 hs
  subst this
  exact W_EZ <| W.vret hC.1 hC.2.1 (hC.2.2.1.trans hr) (fun t ht hW => ⟨⟨none, B, σ, ad, rfl, hq, by rw [ht]; exact hR, hX⟩, hS.F ht⟩) hS.2.2 hd hC.2.2.2.2.2.2.1
def pu (r : Option AV) (st : List AV) : List AV := match r with
  | none => st
  | some a => a :: st
/-- behind a call -/
theorem E_after {mc' ms' : Nat} {Q' : Option AV → Wd → St → Prop} {p : Program} {l : LL} {e : Env} {s : State} {m : MethodId} {args a : Array Value} {below : List Frame} {meth : Method} {c : Code} {H : Heap} {locs : List Loc} {cs : Nat → ClassId} {D : va_G} {A : Nat → Prop} {ad ad0 : Ad} {B0 : Wd} {lc : Array Slot} {sc rest : List Value}
    (hr : va_Run p l.1 e (rmo d mc ms) s m args below meth c H locs k n mc' ms' (F0 m pc lc sc) rest (QC cs D A B ad Q' a) A)
    (hC : Cx Y p s m args meth c) (hK : Kx cs D A ad s s.heap) (hA : ∀ q, s.heap.size ≤ q → A q) (hS : va_S A s.heap H locs) (hX : Ext B0 ad0 B ad) (hl : lr B ad lc Y.2.2.1 ls) (hs : sr B ad rest st)
    (kk : ∀ r B' σ', Q' r B' σ' → E Y d mc ms Q B' (k + mc') (n + ms') (pc + 3) ls (pu r st) σ') :
    W p l.1 e (rmo d mc ms) s m args below meth c H locs k n (EZ Y below cs D A B0 ad0 Q args s mc ms) (F0 m pc lc sc) := by
  intro T hT X
  obtain ⟨v, st₀, t, T', L, h0, X', hL, e1, e2, ⟨⟨r, B', σ', ad', hrv, hQ, hRep, hExt⟩, hz, hkp⟩, hst⟩ := hr T hT X
  rw [h0] at hz hkp
  have hS' : va_S A s.heap T'.heap (locs ++ L) := ⟨Nat.le_trans hS.1 (by rw [e1]; exact hz), fun q h1 h2 => by rw [e1, hkp q (Nat.lt_of_lt_of_le h1 hS.1) h2]; exact hS.2.1 q h1 h2, fun q hq => by
      rcases List.mem_append.mp hq with h | h
      · exact hS.2.2 q h
      · exact hL q h⟩
  have hsr : sr B' ad' (v.toList ++ rest) (pu r st) := by
    match r, hrv with
    | none, hrv =>
      have hv : v = none := Outcome.returned.inj hrv
      subst hv
      exact hs.ext hExt
    | some b, hrv =>
      obtain ⟨w, hw, hb⟩ := hrv
      have hv : v = some w := Outcome.returned.inj hw
      subst hv
      exact ⟨hb, hs.ext hExt⟩
  obtain ⟨t2, a1, b1⟩ := kk r B' σ' hQ p l e s m args below meth c T'.heap (locs ++ L) cs D A ad' ad0 B0 lc (v.toList ++ rest) hC (hK.ext hExt) hA hS' (by rw [e1]; exact hRep) (hX.tr hExt) (hl.ext hExt) hsr T' rfl X'
  exact ⟨t2, hst t2 a1, b1⟩
/-- a method's words -/
def MW (Y : My) (np : Nat) : Prop := Cond.code Y.1 Y.2.1 Y.2.2.1 Y.2.2.2 ∈ tG ∧ Cond.initialized Y.1.cls ∈ tG ∧ Y.2.2.1 ≤ 45 ∧ (Y.1.cls ≠ "java/lang/invoke/MethodHandle" ∧ Y.1.cls ≠ "java/lang/invoke/VarHandle" ∧ (parseMethodDescriptor Y.1.desc).map (fun d => d.parameters.length) = some np)
def MV (Y : My) (np t : Nat) : Prop := MW Y np ∧ Cond.instanceMethod Y.1 ∈ tG ∧ Cond.selects (Rt t) Y.1 Y.1 ∈ tG ∧ t < 13
def MS (Y : My) (np : Nat) : Prop := MW Y np ∧ Cond.static Y.1 ∈ tG
theorem wsY_good {Y' : My} {np : Nat} (h : MW Y' np) : GoodIn tG (wsY Y') := by
  intro w hw
  rcases List.mem_cons.mp hw with rfl | hw
  · exact ⟨h.1, tG_good _ h.1⟩
  · exact tG_in w hw
theorem sr_app {B : Wd} {ad : Ad} : ∀ {as : List AV} {sc : List Value} {bs : List AV}, sr B ad sc (as ++ bs) → ∃ va vb, sc = va ++ vb ∧ sr B ad va as ∧ sr B ad vb bs ∧ va.length = as.length
  | [], sc, bs, h => ⟨[], sc, rfl, trivial, h, rfl⟩
  | a :: as, sc, bs, h => by
    obtain ⟨v, vs, rfl, h1, h2⟩ := sr_1 h
    obtain ⟨va, vb, rfl, h3, h4, h5⟩ := sr_app h2
    exact ⟨v :: va, vb, rfl, ⟨h1, h3⟩, h4, by simp [h5]⟩
theorem sr_snoc {B : Wd} {ad : Ad} : ∀ {as : List AV} {sc : List Value} {a : AV} {v : Value}, sr B ad sc as → rl B ad v a → sr B ad (sc ++ [v]) (as ++ [a])
  | [], [], a, v, _, hv => ⟨hv, trivial⟩
  | b :: as, w :: sc, a, v, h, hv => ⟨h.1, sr_snoc h.2 hv⟩
theorem sr_rev {B : Wd} {ad : Ad} : ∀ {as : List AV} {sc : List Value}, sr B ad sc as → sr B ad sc.reverse as.reverse
  | [], [], _ => trivial
  | a :: as, v :: sc, h => by
    rw [List.reverse_cons, List.reverse_cons]
    exact sr_snoc (sr_rev h.2) h.1
/-- words of the stack below a call -/
def cat : List AV → Nat
  | [] => 0
  | .inr (.inl _) :: as => 2 + cat as
  | _ :: as => 1 + cat as
theorem cat_sr {B : Wd} {ad : Ad} : ∀ {as : List AV} {sc : List Value}, sr B ad sc as → (sc.map fun v => v.category).sum = cat as
  | [], [], _ => rfl
  | .inl z :: as, v :: sc, h => by
    obtain ⟨⟨x, rfl, -⟩, h2⟩ := h
    rw [List.map_cons, List.sum_cons, cat_sr h2]; rfl
  | .inr (.inl z) :: as, v :: sc, h => by
    obtain ⟨⟨x, rfl, -⟩, h2⟩ := h
    rw [List.map_cons, List.sum_cons, cat_sr h2]; rfl
  | .inr (.inr r) :: as, v :: sc, h => by
    obtain ⟨⟨-, rfl⟩, h2⟩ := h
    rw [List.map_cons, List.sum_cons, cat_sr h2]; rfl
theorem rooms {d d' mL mc ms mc' ms' : Nat} (hdd : d' + 1 ≤ d) (hm : mL ≤ 45) : (rmo d' mc' ms').frames + 1 ≤ (rmo d mc ms).frames ∧ 8 + (mL + 11) + (rmo d' mc' ms').locals ≤ (rmo d mc ms).locals := ⟨hdd, by show 8 + (mL + 11) + 64 * d' ≤ 64 * d; omega⟩
theorem E_callV {Y' : My} {d' mc' ms' index np t i : Nat} {as : List AV} {stk : List AV} {Q' : Option AV → Wd → St → Prop} (hd : decode Y.2.1 pc = .ok (.invokevirtual index, 3)) (hL : Cond.methodLink Y.1.cls index Y'.1 ∈ tG) (hM : MV Y' np t) (hdd : d' + 1 ≤ d) (hk : k + mc' ≤ mc) (hn : n + ms' ≤ ms) (hstk : stk = as.reverse ++ vR t i :: st) (has : as.length = np) (hcat : cat st ≤ 8) (hC' : Cn Y' d' mc' ms' B σ (vR t i :: as) Q')
    (kk : ∀ r B' σ', Q' r B' σ' → E Y d mc ms Q B' (k + mc') (n + ms') (pc + 3) ls (pu r st) σ') : E Y d mc ms Q B k n pc ls stk σ := by
  intro p l e s m args below meth c H locs cs D A ad ad0 B0 lc sc hC hK hA hS hR hX hl hs
  subst hstk
  obtain ⟨va, vb, rfl, h1, h2, hlen⟩ := sr_app hs
  obtain ⟨_, rest, rfl, ⟨hm, rfl⟩, h3⟩ := sr_1 h2
  obtain ⟨⟨hM1, hM2, hM3, hM4⟩, hM5, hM6, ht⟩ := hM
  have hm := hm.resolve_right (out_obj ht)
  obtain ⟨q, hq1, hq2⟩ := wl_at (cs := cs) (ad := ad) (σ := σ) hm
  have hts := hC.2.2.2.2.2.1
  have hcell := va_recv hK.1 hR.1 (cls_at ht) (a := ad t i) (q0 := q) (fs := (List.range (nf t)).map (fun j => sv B ad σ t i j)) (by rw [hq2, ce_obj ht])
  have hsr : sr B ad (Value.ref (ad t i) :: va.reverse) (vR t i :: as) := ⟨⟨Or.inl hm, rfl⟩, by have := sr_rev h1; rw [List.reverse_reverse] at this; exact this⟩
  have hrun := va_runV (p := p) (e := e) (below := below) (meth := meth) (locs := locs) (cells := k) (slots := n) (As := va.reverse) (rest := rest) (b := ad t i) (C := Rt t) (g := F0 m pc lc (va ++ Value.ref (ad t i) :: rest)) (nL := Y.2.2.1) (R := rmo d mc ms) (H := H) ⟨hC.1, hC.2.1, hC.2.2.2.1, hC.2.2.2.2.1, hts⟩ (hC' l cs D A ad (Value.ref (ad t i) :: va.reverse))
    ⟨callB_of np hts (wsY_good ⟨hM1, hM2, hM3, hM4⟩) rfl rfl rfl (hts _ hM2) (hts _ hL) hM4 (rooms hdd hM3), hts _ hM5, hts _ hM6⟩
    ⟨fun a U g mk q => ⟨q.1, q.2.1.blind, q.2.2.1, q.2.2.2.1, q.2.2.2.2⟩, hcell, fun U hU hW => ⟨rfl, Kx.warm hW hU hS hK, fun q hq => hA q (Nat.le_trans hS.1 (by rw [← hU]; exact hq)), by rw [hU]; exact hR, hsr⟩⟩
    rfl (by rw [List.length_reverse, hlen, List.length_reverse, has]) hl.1 (by rw [List.reverse_reverse]) (lv_room (by rw [cat_sr h3]; exact hcat)) hd ⟨hk, hn⟩
  exact E_after hrun hC hK hA hS hX hl h3 kk
theorem E_callI {Y' : My} {d' mc' ms' index np t i : Nat} {as : List AV} {stk : List AV} {Q' : Option AV → Wd → St → Prop} (hd : decode Y.2.1 pc = .ok (.invokespecial index, 3)) (hL : Cond.methodLink Y.1.cls index Y'.1 ∈ tG) (hM : MW Y' np) (hI : Cond.instanceMethod Y'.1 ∈ tG) (hN : Y'.1.name = "<init>") (hr : Y'.2.2.2 = none) (hdd : d' + 1 ≤ d) (hk : k + mc' ≤ mc) (hn : n + ms' ≤ ms) (hstk : stk = as.reverse ++ vR t i :: st) (has : as.length = np) (hcat : cat st ≤ 8) (hC' : Cn Y' d' mc' ms' B σ (vR t i :: as) Q')
    (kk : ∀ r B' σ', Q' r B' σ' → E Y d mc ms Q B' (k + mc') (n + ms') (pc + 3) ls (pu r st) σ') : E Y d mc ms Q B k n pc ls stk σ := by
  intro p l e s m args below meth c H locs cs D A ad ad0 B0 lc sc hC hK hA hS hR hX hl hs
  subst hstk
  obtain ⟨va, vb, rfl, h1, h2, hlen⟩ := sr_app hs
  obtain ⟨_, rest, rfl, ⟨hm, rfl⟩, h3⟩ := sr_1 h2
  obtain ⟨hM1, hM2, hM3, hM4⟩ := hM
  have hts := hC.2.2.2.2.2.1
  have hsr : sr B ad (Value.ref (ad t i) :: va.reverse) (vR t i :: as) := ⟨⟨hm, rfl⟩, by have := sr_rev h1; rw [List.reverse_reverse] at this; exact this⟩
  have hcb := callB_of (R := rmo d mc ms) (rm := rmo d' mc' ms') (mc := mc') (ms := ms') np hts (wsY_good ⟨hM1, hM2, hM3, hM4⟩) rfl rfl rfl (hts _ hM2) (hts _ hL) hM4 (rooms hdd hM3)
  rw [hr] at hcb
  have hrun := va_runI (p := p) (e := e) (below := below) (meth := meth) (locs := locs) (cells := k) (slots := n) (As := va.reverse) (rest := rest) (b := ad t i) (g := F0 m pc lc (va ++ Value.ref (ad t i) :: rest)) (nL := Y.2.2.1) (R := rmo d mc ms) (H := H) ⟨hC.1, hC.2.1, hC.2.2.2.1, hC.2.2.2.2.1, hts⟩ (hC' l cs D A ad (Value.ref (ad t i) :: va.reverse))
    ⟨hcb, hN, hts _ hI⟩
    ⟨fun a U g mk q => ⟨q.1, q.2.1.blind, q.2.2.1, q.2.2.2.1, q.2.2.2.2⟩, fun U hU hW => ⟨rfl, Kx.warm hW hU hS hK, fun q hq => hA q (Nat.le_trans hS.1 (by rw [← hU]; exact hq)), by rw [hU]; exact hR, hsr⟩⟩
    rfl (by rw [List.length_reverse, hlen, List.length_reverse, has]) hl.1 (by rw [List.reverse_reverse]) (lv_room (by rw [cat_sr h3]; exact hcat)) hd ⟨hk, hn⟩
  exact E_after hrun hC hK hA hS hX hl h3 kk
theorem E_callS {Y' : My} {d' mc' ms' index np : Nat} {as : List AV} {stk : List AV} {Q' : Option AV → Wd → St → Prop} (hd : decode Y.2.1 pc = .ok (.invokestatic index, 3)) (hL : Cond.methodLink Y.1.cls index Y'.1 ∈ tG) (hM : MS Y' np) (hdd : d' + 1 ≤ d) (hk : k + mc' ≤ mc) (hn : n + ms' ≤ ms) (hstk : stk = as.reverse ++ st) (has : as.length = np) (hcat : cat st ≤ 8) (hC' : Cn Y' d' mc' ms' B σ as Q')
    (kk : ∀ r B' σ', Q' r B' σ' → E Y d mc ms Q B' (k + mc') (n + ms') (pc + 3) ls (pu r st) σ') : E Y d mc ms Q B k n pc ls stk σ := by
  intro p l e s m args below meth c H locs cs D A ad ad0 B0 lc sc hC hK hA hS hR hX hl hs
  subst hstk
  obtain ⟨va, rest, rfl, h1, h3, hlen⟩ := sr_app hs
  obtain ⟨⟨hM1, hM2, hM3, hM4⟩, hM5⟩ := hM
  have hts := hC.2.2.2.2.2.1
  have hsr : sr B ad va.reverse as := by have := sr_rev h1; rw [List.reverse_reverse] at this; exact this
  have hrun := va_runS (p := p) (e := e) (below := below) (meth := meth) (locs := locs) (cells := k) (slots := n) (As := va.reverse) (rest := rest) (g := F0 m pc lc (va ++ rest)) (nL := Y.2.2.1) (R := rmo d mc ms) (H := H) ⟨hC.1, hC.2.1, hC.2.2.2.1, hC.2.2.2.2.1, hts⟩ (hC' l cs D A ad va.reverse)
    ⟨callB_of np hts (wsY_good ⟨hM1, hM2, hM3, hM4⟩) rfl rfl rfl (hts _ hM2) (hts _ hL) hM4 (rooms hdd hM3), hts _ hM5⟩
    ⟨fun a U g mk q => ⟨q.1, q.2.1.blind, q.2.2.1, q.2.2.2.1, q.2.2.2.2⟩, fun U hU hW => ⟨rfl, Kx.warm hW hU hS hK, fun q hq => hA q (Nat.le_trans hS.1 (by rw [← hU]; exact hq)), by rw [hU]; exact hR, hsr⟩⟩
    rfl (by rw [List.length_reverse, hlen, List.length_reverse, has]) hl.1 (by rw [List.reverse_reverse]) (lv_room (by rw [cat_sr h3]; exact hcat)) hd ⟨hk, hn⟩
  exact E_after hrun hC hK hA hS hX hl h3 kk
theorem E_callN {Y' : My} {d' mc' ms' index np : Nat} {host : String} {as : List AV} {stk : List AV} {Q' : Option AV → Wd → St → Prop} (hd : decode Y.2.1 pc = .ok (.invokestatic index, 3)) (hL : Cond.methodLinkNest Y.1.cls index Y'.1 host ∈ nestW) (hM : MS Y' np) (hdd : d' + 1 ≤ d) (hk : k + mc' ≤ mc) (hn : n + ms' ≤ ms) (hstk : stk = as.reverse ++ st) (has : as.length = np) (hcat : cat st ≤ 8) (hC' : Cn Y' d' mc' ms' B σ as Q')
    (kk : ∀ r B' σ', Q' r B' σ' → E Y d mc ms Q B' (k + mc') (n + ms') (pc + 3) ls (pu r st) σ') : E Y d mc ms Q B k n pc ls stk σ := by
  intro p l e s m args below meth c H locs cs D A ad ad0 B0 lc sc hC hK hA hS hR hX hl hs
  subst hstk
  obtain ⟨va, rest, rfl, h1, h3, hlen⟩ := sr_app hs
  obtain ⟨⟨hM1, hM2, hM3, hM4⟩, hM5⟩ := hM
  have hts := hC.2.2.2.2.2.1
  have hsr : sr B ad va.reverse as := by have := sr_rev h1; rw [List.reverse_reverse] at this; exact this
  have hrun := va_runSN (p := p) (e := e) (below := below) (meth := meth) (locs := locs) (cells := k) (slots := n) (As := va.reverse) (rest := rest) (g := F0 m pc lc (va ++ rest)) (nL := Y.2.2.1) (R := rmo d mc ms) (H := H) ⟨hC.1, hC.2.1, hC.2.2.2.1, hC.2.2.2.2.1, hts⟩ (hC' l cs D A ad va.reverse)
    ⟨va_cnB np hts (wsY_good ⟨hM1, hM2, hM3, hM4⟩) rfl rfl rfl (hK.2.1 _ hL) (hts _ hM2) hM4 (rooms hdd hM3), hts _ hM5, trivial⟩
    ⟨fun a U g mk q => ⟨q.1, q.2.1.blind, q.2.2.1, q.2.2.2.1, q.2.2.2.2⟩, fun U hU hW => ⟨rfl, Kx.warm hW hU hS hK, fun q hq => hA q (Nat.le_trans hS.1 (by rw [← hU]; exact hq)), by rw [hU]; exact hR, hsr⟩⟩
    rfl (by rw [List.length_reverse, hlen, List.length_reverse, has]) hl.1 (by rw [List.reverse_reverse]) (lv_room (by rw [cat_sr h3]; exact hcat)) hd ⟨hk, hn⟩
  exact E_after hrun hC hK hA hS hX hl h3 kk
end ERules4
