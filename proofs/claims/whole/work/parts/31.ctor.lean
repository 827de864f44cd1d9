/-! ===== worlds under construction ===== -/
abbrev CE : Type := (Nat × List (Option V)) ⊕ (Nat × (Nat × ((Nat → Int32) ⊕ ((Nat → Int64) ⊕ (Nat → Option Nat)))))
def cval (ρ : Nat → Nat) : Option V → Value
  | none => .null
  | some v => toV ρ v
def ceE (ρ : Nat → Nat) (cT : Nat → ClassId) : CE → va_E
  | .inl o => .inr (o.1, o.2.map (cval ρ))
  | .inr (t, n, .inl f) => .inl (cT t, n, .inl f)
  | .inr (t, n, .inr (.inl f)) => .inl (cT t, n, .inr (.inl f))
  | .inr (t, n, .inr (.inr f)) => .inl (cT t, n, .inr (.inr (.inr (.inr (fun j => (f j).map ρ)))))
def wc (N : Nat) (ce : Nat → CE) (ρ : Nat → Nat) (cT : Nat → ClassId) : va_W := (List.range N).map fun a => (ρ a, ceE ρ cT (ce a))
def VC (N : Nat) : V → Prop
  | .inr (.inr q) => q.2.2 < N
  | _ => True
def CC (N : Nat) : CE → Prop
  | .inl o => ∀ v, some v ∈ o.2 → VC N v
  | .inr (_, _, .inr (.inr f)) => ∀ j b, f j = some b → b < N
  | _ => True
def WF (N : Nat) (ce : Nat → CE) : Prop := ∀ a, a < N → CC N (ce a)
def WC (N : Nat) (ce : Nat → CE) (ρ : Nat → Nat) (cT : Nat → ClassId) (D : va_G) (A : Nat → Prop) (U : State) (H : Heap) : Prop :=
  va_P D CL (wc N ce ρ cT) H ∧ va_K D CL (tyz cT) U ∧ va_D A (wc N ce ρ cT) ∧ WF N ce
/-- ρ' goes on as ρ: the cells that were there, the texts -/
def Ext (N : Nat) (ρ ρ' : Nat → Nat) : Prop := ∀ a, (a < N ∨ 1000000 ≤ a) → ρ' a = ρ a
theorem Ext.rf {N : Nat} {ρ : Nat → Nat} : Ext N ρ ρ := fun _ _ => rfl
theorem Ext.tr {N N1 : Nat} {ρ ρ1 ρ2 : Nat → Nat} (h1 : Ext N ρ ρ1) (h2 : Ext N1 ρ1 ρ2) (hN : N ≤ N1) : Ext N ρ ρ2 := fun a ha => (h2 a (ha.elim (fun z => Or.inl (by omega)) Or.inr)).trans (h1 a ha)
theorem toV_ext {N : Nat} {ρ ρ' : Nat → Nat} (h : Ext N ρ ρ') : ∀ {v : V}, VC N v → toV ρ' v = toV ρ v
  | .inl _, _ => rfl
  | .inr (.inl _), _ => rfl
  | .inr (.inr q), hv => congrArg Value.ref (h q.2.2 (Or.inl hv))
theorem ceE_ext {N : Nat} {ρ ρ' : Nat → Nat} {cT : Nat → ClassId} (h : Ext N ρ ρ') : ∀ {x : CE}, CC N x → ceE ρ' cT x = ceE ρ cT x
  | .inl o, hx => by
    show Sum.inr (o.1, o.2.map (cval ρ')) = Sum.inr (o.1, o.2.map (cval ρ))
    congr 2
    apply List.map_congr_left
    intro v hv
    match v, hv with
    | none, _ => rfl
    | some v, hv => exact toV_ext h (hx v hv)
  | .inr (t, n, .inl f), _ => rfl
  | .inr (t, n, .inr (.inl f)), _ => rfl
  | .inr (t, n, .inr (.inr f)), hx => by
    have e : (fun j => (f j).map ρ') = fun j => (f j).map ρ := by
      funext j
      cases hj : f j with
      | none => rfl
      | some b => exact congrArg some (h b (Or.inl (hx j b hj)))
    show Sum.inl (cT t, n, Sum.inr (Sum.inr (Sum.inr (Sum.inr (fun j => (f j).map ρ'))))) = _
    rw [e]
    rfl
theorem wc_ext {N : Nat} {ce : Nat → CE} {ρ ρ' : Nat → Nat} {cT : Nat → ClassId} (h : Ext N ρ ρ') (hw : WF N ce) : wc N ce ρ' cT = wc N ce ρ cT := by
  unfold wc
  apply List.map_congr_left
  intro a ha
  have ha := List.mem_range.mp ha
  rw [h a (Or.inl ha), ceE_ext h (hw a ha)]
theorem wc_congr {N : Nat} {ce ce' : Nat → CE} {ρ : Nat → Nat} {cT : Nat → ClassId} (h : ∀ a, a < N → ce' a = ce a) : wc N ce' ρ cT = wc N ce ρ cT := by
  unfold wc
  apply List.map_congr_left
  intro a ha
  rw [h a (List.mem_range.mp ha)]
theorem wc_get {N : Nat} {ce : Nat → CE} {ρ : Nat → Nat} {cT : Nat → ClassId} {a : Nat} (h : a < N) : (wc N ce ρ cT)[a]? = some (ρ a, ceE ρ cT (ce a)) := by
  unfold wc
  rw [List.getElem?_map, List.getElem?_range h]
  rfl
theorem CC.up {N N1 : Nat} (hN : N ≤ N1) : ∀ {x : CE}, CC N x → CC N1 x
  | .inl o, h => fun v hv => by
    have := h v hv
    match v, this with
    | .inl _, _ => trivial
    | .inr (.inl _), _ => trivial
    | .inr (.inr q), z => exact Nat.lt_of_lt_of_le z hN
  | .inr (t, n, .inl f), _ => trivial
  | .inr (t, n, .inr (.inl f)), _ => trivial
  | .inr (t, n, .inr (.inr f)), h => fun j b e => Nat.lt_of_lt_of_le (h j b e) hN
/-- a new cell at the end -/
theorem wc_push {N q : Nat} {ce : Nat → CE} {ρ : Nat → Nat} {cT : Nat → ClassId} {x : CE} (hw : WF N ce) (hx : CC N x) (hN : N < 1000000) : wc N ce ρ cT ++ [(q, ceE ρ cT x)] = wc (N + 1) (va_up ce N x) (va_up ρ N q) cT := by
  have he : Ext N ρ (va_up ρ N q) := fun a ha => up_ne (by omega)
  have h1 : wc (N + 1) (va_up ce N x) (va_up ρ N q) cT = wc N (va_up ce N x) (va_up ρ N q) cT ++ [(va_up ρ N q N, ceE (va_up ρ N q) cT (va_up ce N x N))] := by
    unfold wc
    rw [List.range_succ, List.map_append]
    rfl
  rw [h1, up_same, up_same, ceE_ext he hx, wc_congr (ce := ce) (fun a ha => up_ne (by omega)), wc_ext he hw]
theorem WF.push {N : Nat} {ce : Nat → CE} {x : CE} (hw : WF N ce) (hx : CC N x) : WF (N + 1) (va_up ce N x) := fun a ha => by
  by_cases q : a = N
  · subst q
    rw [up_same]
    exact hx.up (Nat.le_succ _)
  · rw [up_ne q]
    exact (hw a (by omega)).up (Nat.le_succ _)
theorem wc_set {N : Nat} {ce : Nat → CE} {ρ : Nat → Nat} {cT : Nat → ClassId} {a : Nat} {x : CE} : (wc N ce ρ cT).set a (ρ a, ceE ρ cT x) = wc N (va_up ce a x) ρ cT := by
  apply List.ext_getElem?
  intro j
  by_cases hj : j < N
  · rw [wc_get hj]
    by_cases q : j = a
    · subst q
      rw [List.getElem?_set_self (by unfold wc; rw [List.length_map, List.length_range]; exact hj), up_same]
    · rw [List.getElem?_set_ne (fun z => q z.symm), wc_get hj, up_ne q]
  · rw [List.getElem?_eq_none (by rw [List.length_set]; unfold wc; rw [List.length_map, List.length_range]; omega), List.getElem?_eq_none (by unfold wc; rw [List.length_map, List.length_range]; omega)]
theorem WF.set {N a : Nat} {ce : Nat → CE} {x : CE} (hw : WF N ce) (hx : CC N x) : WF N (va_up ce a x) := fun j hj => by
  by_cases q : j = a
  · subst q; rw [up_same]; exact hx
  · rw [up_ne q]; exact hw j hj
/-- what the tables say besides, for making things -/
def AmC (U : State) : Prop := va_AO RX5 U ∧ (Cond.arrayOver (.array .int)).before #[] U = true ∧ va_Nw (.methodLinkNest RX9 22 yX4_init RX9) U ∧ va_Nw (.methodLinkNest RX9 45 yX5_init RX9) U ∧ va_Nw (.methodLinkNest RX9 70 yX8_init RX9) U ∧ va_Nw (.methodLinkNest RX9 77 yX0_init RX9) U ∧ va_Nw (.methodLinkNest RX2 22 yX5_init RX9) U ∧ va_Nw (.methodLinkNest RX3 54 yX1_init RX9) U
theorem kd_bare (vm : Vm) (c : Nat) : (vm.bare.classes[c]?).map Class.kind = (vm.classes[c]?).map Class.kind := by
  simp only [Vm.bare, Array.getElem?_map, Option.map_map]
  rfl
def aoF (fc : String → Option ClassId) (fi : ClassId → Option Nat) (kd : Nat → Option Kind) : Bool :=
  ((fc (FieldType.array .int).toString).bind fun comp => (fi comp).bind fun c => (kd c).map fun k => match k with
    | .array _ ty => decide (ty = FieldType.array .int) && decide (fc ("[" ++ (FieldType.array .int).toString) = some c)
    | _ => false) == some true
theorem aoF_eq (U : State) : (Cond.arrayOver (.array .int)).before #[] U = aoF U.vm.findClass (fun comp => U.vm.classes.findIdx? fun (x : Class) => match x.kind with | .array component _ => component == comp | _ => false) (fun c => (U.vm.classes[c]?).map Class.kind) := by
  unfold Cond.before Cond.holds aoF
  simp only [Cond.value, Option.map_map]
  rfl
theorem AOA_moved {u U : State} (hvm : u.vm.Alike U.vm) (h : (Cond.arrayOver (.array .int)).before #[] u = true) : (Cond.arrayOver (.array .int)).before #[] U = true := by
  have hb : U.vm.bare = u.vm.bare := by first | exact hvm.bare_eq | exact hvm.bare_eq.symm
  have e1 : U.vm.findClass = u.vm.findClass := by funext n; rw [hvm.findClass]
  have e2 : ∀ comp, (U.vm.classes.findIdx? fun (x : Class) => match x.kind with | .array component _ => component == comp | _ => false) = (u.vm.classes.findIdx? fun (x : Class) => match x.kind with | .array component _ => component == comp | _ => false) := fun comp => by
    have h1 := va_idx_bare U.vm comp
    have h2 := va_idx_bare u.vm comp
    rw [hb] at h1
    exact h1.symm.trans h2
  have e3 : ∀ c, (U.vm.classes[c]?).map Class.kind = (u.vm.classes[c]?).map Class.kind := fun c => by
    rw [← kd_bare, ← kd_bare u.vm, hb]
  rw [aoF_eq] at h ⊢
  rw [e1, show (fun comp => U.vm.classes.findIdx? fun (x : Class) => match x.kind with | .array component _ => component == comp | _ => false) = (fun comp => u.vm.classes.findIdx? fun (x : Class) => match x.kind with | .array component _ => component == comp | _ => false) from funext e2, show (fun c => (U.vm.classes[c]?).map Class.kind) = (fun c => (u.vm.classes[c]?).map Class.kind) from funext e3]
  exact h
theorem AmC.warm {s U : State} (hW : s.WarmedH U.vm) (h : AmC s) : AmC U := ⟨h.1.moved hW.alike, AOA_moved hW.alike h.2.1, va_Nw.warmM hW h.2.2.1, va_Nw.warmM hW h.2.2.2.1, va_Nw.warmM hW h.2.2.2.2.1, va_Nw.warmM hW h.2.2.2.2.2.1, va_Nw.warmM hW h.2.2.2.2.2.2.1, va_Nw.warmM hW h.2.2.2.2.2.2.2⟩
theorem AmC.same {s U : State} (hv : U.vm = s.vm) (h : AmC s) : AmC U := by
  have hz : s.vm.Alike U.vm := by rw [hv]; exact Vm.Alike.refl _
  exact ⟨h.1.moved hz, AOA_moved hz h.2.1, va_Nw.same rfl hv.symm h.2.2.1, va_Nw.same rfl hv.symm h.2.2.2.1, va_Nw.same rfl hv.symm h.2.2.2.2.1, va_Nw.same rfl hv.symm h.2.2.2.2.2.1, va_Nw.same rfl hv.symm h.2.2.2.2.2.2.1, va_Nw.same rfl hv.symm h.2.2.2.2.2.2.2⟩
def QK (N0 : Nat) (ρ0 : Nat → Nat) (N' : Nat) (ce' : Nat → CE) (cT : Nat → ClassId) (D : va_G) (A : Nat → Prop) : Array Value → State → Outcome → State → Prop := fun _ st o t =>
  o = .returned none ∧ (∃ ρ', Ext N0 ρ0 ρ' ∧ WC N' ce' ρ' cT D A t t.heap) ∧ va_F A st t
def LC (N : Nat) (ls : List (Option V)) : Prop := ∀ v, some v ∈ ls → VC N v
def SC (N : Nat) (st : List V) : Prop := ∀ v ∈ st, VC N v
/-- from this frame of a constructor, the world under construction comes to N', ce'; kc cells of ks slots are made -/
def EvC (d : Nat) (y : MethodName) (cc : ByteArray) (nL : Nat) (pc : Nat) (ls : List (Option V)) (st : List V) (N : Nat) (ce : Nat → CE) (kc ks N' : Nat) (ce' : Nat → CE) : Prop :=
  ∀ (l : Launch) (R : Room) (N0 : Nat) (ρ0 ρ : Nat → Nat) (cT : Nat → ClassId) (D : va_G) (A : Nat → Prop) (p : Program) (e : Env) (s : State) (m : MethodId) (args : Array Value) (below : List Frame) (meth : Method) (c : Code) (H : Heap) (locs : List Loc) (cells slots fc fs : Nat) (al : Array Slot),
    d + 1 ≤ R.frames ∧ 40 * (d + 1) ≤ R.locals ∧ fc ≤ R.cells ∧ fs ≤ R.slots → cells + kc = fc ∧ slots + ks = fs → Ext N0 ρ0 ρ ∧ N0 ≤ N ∧ N < 900000 → (∀ q, s.heap.size ≤ q → A q) → Cx y cc nL none p s m args meth c → meth.name = "<init>" → WC N ce ρ cT D A s H → Amb A ρ s s.heap → AmC s → va_S A s.heap H locs → LC N ls → SC N st → LR ρ al nL ls →
    W p l e R s m args below meth c H locs cells slots (MQ below (QK N0 ρ0 N' ce' cT D A) args s fc fs A) (F0 m pc al (st.map (toV ρ)))
theorem SC.cons {N : Nat} {v : V} {st : List V} (h : VC N v) (k : SC N st) : SC N (v :: st) := fun w hw => by
  rcases List.mem_cons.mp hw with rfl | q
  · exact h
  · exact k w q
theorem SC.tl {N : Nat} {v : V} {st : List V} (k : SC N (v :: st)) : SC N st := fun w hw => k w (List.mem_cons_of_mem _ hw)
theorem SC.hd {N : Nat} {v : V} {st : List V} (k : SC N (v :: st)) : VC N v := k v List.mem_cons_self
theorem LC.at {N : Nat} {ls : List (Option V)} (h : LC N ls) {i : Nat} {v : V} (hi : ls.getD i none = some v) : VC N v := by
  apply h
  rw [List.getD_eq_getElem?_getD] at hi
  cases hq : ls[i]? with
  | none => rw [hq] at hi; cases hi
  | some z =>
    rw [hq] at hi
    have : z = some v := hi
    rw [← this]
    exact List.mem_of_getElem? hq
theorem LC.set {N : Nat} {ls : List (Option V)} (h : LC N ls) {i : Nat} {v : V} (hv : VC N v) : LC N (ls.set i (some v)) := by
  intro w hw
  rcases List.mem_or_eq_of_mem_set hw with q | q
  · exact h w q
  · cases q; exact hv
theorem VC.up {N N1 : Nat} (hN : N ≤ N1) : ∀ {v : V}, VC N v → VC N1 v
  | .inl _, _ => trivial
  | .inr (.inl _), _ => trivial
  | .inr (.inr q), h => Nat.lt_of_lt_of_le h hN
theorem LR.ext {N : Nat} {ρ ρ' : Nat → Nat} {al : Array Slot} {nL : Nat} {ls : List (Option V)} (h : LR ρ al nL ls) (he : Ext N ρ ρ') (hl : LC N ls) : LR ρ' al nL ls := by
  refine ⟨h.1, lv_mono h.2 ?_⟩
  intro q hq
  obtain ⟨v, h1, h2⟩ := mem_lvl.mp hq
  exact mem_lvl.mpr ⟨v, h1, by rw [h2, toV_ext he (hl v (List.mem_of_getElem? h1))]⟩
theorem st_ext {N : Nat} {ρ ρ' : Nat → Nat} {st : List V} (he : Ext N ρ ρ') (hs : SC N st) : st.map (toV ρ') = st.map (toV ρ) := by
  apply List.map_congr_left
  intro v hv
  exact toV_ext he (hs v hv)

theorem C_iconst {d : Nat} {y : MethodName} {cc : ByteArray} {nL : Nat} {pc : Nat} {ls : List (Option V)} {st : List V} {N : Nat} {ce : Nat → CE} {kc ks N' : Nat} {ce' : Nat → CE} {n : Int} (v : Int32) (hd : decode cc pc = .ok (.iconst n, 1)) (hv : Int32.ofInt n = v) (k : EvC d y cc nL (pc + 1) ls (vi v :: st) N ce kc ks N' ce') : EvC d y cc nL pc ls (st) N ce kc ks N' ce' := by
  intro l R N0 ρ0 ρ cT D A p e s m args below meth c H locs cells slots fc fs al hR hF hE hA hX hN hW hB hM hS hls hst hL
  exact lv_iconst hX.1 hX.2.1 hd hv (k l R N0 ρ0 ρ cT D A p e s m args below meth c H locs cells slots fc fs al hR hF hE hA hX hN hW hB hM hS hls (SC.cons trivial hst) hL)

theorem C_bipush {d : Nat} {y : MethodName} {cc : ByteArray} {nL : Nat} {pc : Nat} {ls : List (Option V)} {st : List V} {N : Nat} {ce : Nat → CE} {kc ks N' : Nat} {ce' : Nat → CE} {n : Int} (v : Int32) (hd : decode cc pc = .ok (.bipush n, 2)) (hv : (Int8.ofInt n).toInt32 = v) (k : EvC d y cc nL (pc + 2) ls (vi v :: st) N ce kc ks N' ce') : EvC d y cc nL pc ls (st) N ce kc ks N' ce' := by
  intro l R N0 ρ0 ρ cT D A p e s m args below meth c H locs cells slots fc fs al hR hF hE hA hX hN hW hB hM hS hls hst hL
  exact lv_bipush hX.1 hX.2.1 hd hv (k l R N0 ρ0 ρ cT D A p e s m args below meth c H locs cells slots fc fs al hR hF hE hA hX hN hW hB hM hS hls (SC.cons trivial hst) hL)

theorem C_sipush {d : Nat} {y : MethodName} {cc : ByteArray} {nL : Nat} {pc : Nat} {ls : List (Option V)} {st : List V} {N : Nat} {ce : Nat → CE} {kc ks N' : Nat} {ce' : Nat → CE} {n : Int} (v : Int32) (hd : decode cc pc = .ok (.sipush n, 3)) (hv : (Int16.ofInt n).toInt32 = v) (k : EvC d y cc nL (pc + 3) ls (vi v :: st) N ce kc ks N' ce') : EvC d y cc nL pc ls (st) N ce kc ks N' ce' := by
  intro l R N0 ρ0 ρ cT D A p e s m args below meth c H locs cells slots fc fs al hR hF hE hA hX hN hW hB hM hS hls hst hL
  exact lv_sipush hX.1 hX.2.1 hd hv (k l R N0 ρ0 ρ cT D A p e s m args below meth c H locs cells slots fc fs al hR hF hE hA hX hN hW hB hM hS hls (SC.cons trivial hst) hL)

theorem C_aload_n {d : Nat} {y : MethodName} {cc : ByteArray} {nL : Nat} {pc : Nat} {ls : List (Option V)} {st : List V} {N : Nat} {ce : Nat → CE} {kc ks N' : Nat} {ce' : Nat → CE} {j : Fin 4} {t n a : Nat} (hd : decode cc pc = .ok (.aload_n j, 1)) (hi : ls.getD (j : Nat) none = some (vr t n a)) (k : EvC d y cc nL (pc + 1) ls (vr t n a :: st) N ce kc ks N' ce') : EvC d y cc nL pc ls st N ce kc ks N' ce' := by
  intro l R N0 ρ0 ρ cT D A p e s m args below meth c H locs cells slots fc fs al hR hF hE hA hX hN hW hB hM hS hls hst hL
  exact lv_aload_n hX.1 hX.2.1 hd rfl (hL.at hi) (k l R N0 ρ0 ρ cT D A p e s m args below meth c H locs cells slots fc fs al hR hF hE hA hX hN hW hB hM hS hls (SC.cons (hls.at hi) hst) hL)

theorem C_iload_n {d : Nat} {y : MethodName} {cc : ByteArray} {nL : Nat} {pc : Nat} {ls : List (Option V)} {st : List V} {N : Nat} {ce : Nat → CE} {kc ks N' : Nat} {ce' : Nat → CE} {j : Fin 4} {x : Int32} (hd : decode cc pc = .ok (.iload_n j, 1)) (hi : ls.getD (j : Nat) none = some (vi x)) (k : EvC d y cc nL (pc + 1) ls (vi x :: st) N ce kc ks N' ce') : EvC d y cc nL pc ls st N ce kc ks N' ce' := by
  intro l R N0 ρ0 ρ cT D A p e s m args below meth c H locs cells slots fc fs al hR hF hE hA hX hN hW hB hM hS hls hst hL
  exact lv_iload_n hX.1 hX.2.1 hd rfl (hL.at hi) (k l R N0 ρ0 ρ cT D A p e s m args below meth c H locs cells slots fc fs al hR hF hE hA hX hN hW hB hM hS hls (SC.cons trivial hst) hL)

theorem C_istore_n {d : Nat} {y : MethodName} {cc : ByteArray} {nL : Nat} {pc : Nat} {ls : List (Option V)} {st : List V} {N : Nat} {ce : Nat → CE} {kc ks N' : Nat} {ce' : Nat → CE} {j : Fin 4} {x : Int32} (hd : decode cc pc = .ok (.istore_n j, 1)) (hj : (j : Nat) < ls.length) (hp : ∀ x, (j : Nat) ≠ 0 → ls.getD ((j : Nat) - 1) none ≠ some (vl x)) (k : EvC d y cc nL (pc + 1) (ls.set (j : Nat) (some (vi x))) st N ce kc ks N' ce') : EvC d y cc nL pc ls (vi x :: st) N ce kc ks N' ce' := by
  intro l R N0 ρ0 ρ cT D A p e s m args below meth c H locs cells slots fc fs al hR hF hE hA hX hN hW hB hM hS hls hst hL
  exact lv_istore_n hX.1 hX.2.1 hd rfl hL.2 (hL.1 ▸ hj) rfl (fun al' hl' => k l R N0 ρ0 ρ cT D A p e s m args below meth c H locs cells slots fc fs al' hR hF hE hA hX hN hW hB hM hS (hls.set trivial) hst.tl (hL.st1 hp hl'))

theorem C_iinc {d : Nat} {y : MethodName} {cc : ByteArray} {nL : Nat} {pc : Nat} {ls : List (Option V)} {st : List V} {N : Nat} {ce : Nat → CE} {kc ks N' : Nat} {ce' : Nat → CE} {j : Nat} {n : Int} {x : Int32} (v : Int32) (hd : decode cc pc = .ok (.iinc j n, 3)) (hi : ls.getD j none = some (vi x)) (hv : x + Int32.ofInt n = v) (hp : ∀ x, j ≠ 0 → ls.getD (j - 1) none ≠ some (vl x)) (k : EvC d y cc nL (pc + 3) (ls.set j (some (vi v))) st N ce kc ks N' ce') : EvC d y cc nL pc ls st N ce kc ks N' ce' := by
  intro l R N0 ρ0 ρ cT D A p e s m args below meth c H locs cells slots fc fs al hR hF hE hA hX hN hW hB hM hS hls hst hL
  have hj : j < ls.length := by
    rcases Nat.lt_or_ge j ls.length with q | q
    · exact q
    · rw [List.getD_eq_getElem?_getD, List.getElem?_eq_none q] at hi
      cases hi
  have hm : (j, Value.int x) ∈ lvl ρ ls := mem_lvl.mpr ⟨vi x, by rw [List.getD_eq_getElem?_getD, List.getElem?_eq_getElem hj] at hi; rw [List.getElem?_eq_getElem hj]; exact congrArg some hi, rfl⟩
  obtain ⟨kk, hkk⟩ := List.getElem?_of_mem hm
  exact lv_iinc (k := kk) hX.1 hX.2.1 hd hL.2 hkk hv (hL.1 ▸ hj) rfl (fun al' hl' => k l R N0 ρ0 ρ cT D A p e s m args below meth c H locs cells slots fc fs al' hR hF hE hA hX hN hW hB hM hS (hls.set trivial) hst (hL.st1 hp hl'))

theorem C_dup {d : Nat} {y : MethodName} {cc : ByteArray} {nL : Nat} {pc : Nat} {ls : List (Option V)} {st : List V} {N : Nat} {ce : Nat → CE} {kc ks N' : Nat} {ce' : Nat → CE} {t n a : Nat} (hd : decode cc pc = .ok (.dup, 1)) (k : EvC d y cc nL (pc + 1) ls (vr t n a :: vr t n a :: st) N ce kc ks N' ce') : EvC d y cc nL pc ls (vr t n a :: st) N ce kc ks N' ce' := by
  intro l R N0 ρ0 ρ cT D A p e s m args below meth c H locs cells slots fc fs al hR hF hE hA hX hN hW hB hM hS hls hst hL
  exact lv_dup hX.1 hX.2.1 hd rfl (k l R N0 ρ0 ρ cT D A p e s m args below meth c H locs cells slots fc fs al hR hF hE hA hX hN hW hB hM hS hls (SC.cons hst.hd hst) hL)

theorem C_icmp_ge {d : Nat} {y : MethodName} {cc : ByteArray} {nL : Nat} {pc : Nat} {ls : List (Option V)} {st : List V} {N : Nat} {ce : Nat → CE} {kc ks N' : Nat} {ce' : Nat → CE} {x z : Int32} {off : Int} (tgt : Nat) (hd : decode cc pc = .ok (.if_icmp .ge off, 3)) (ht : (pc : Int) + off = (tgt : Int)) (kt : z ≤ x → EvC d y cc nL tgt ls st N ce kc ks N' ce') (kf : ¬ z ≤ x → EvC d y cc nL (pc + 3) ls st N ce kc ks N' ce') : EvC d y cc nL pc ls (vi z :: vi x :: st) N ce kc ks N' ce' := by
  intro l R N0 ρ0 ρ cT D A p e s m args below meth c H locs cells slots fc fs al hR hF hE hA hX hN hW hB hM hS hls hst hL
  exact lv_icmp_ge hX.1 hX.2.1 hd ht (fun q => kt q l R N0 ρ0 ρ cT D A p e s m args below meth c H locs cells slots fc fs al hR hF hE hA hX hN hW hB hM hS hls hst.tl.tl hL) (fun q => kf q l R N0 ρ0 ρ cT D A p e s m args below meth c H locs cells slots fc fs al hR hF hE hA hX hN hW hB hM hS hls hst.tl.tl hL)

theorem C_goto {d : Nat} {y : MethodName} {cc : ByteArray} {nL : Nat} {pc : Nat} {ls : List (Option V)} {st : List V} {N : Nat} {ce : Nat → CE} {kc ks N' : Nat} {ce' : Nat → CE} {off : Int} (tgt : Nat) (hd : decode cc pc = .ok (.goto off, 3)) (ht : (pc : Int) + off = (tgt : Int)) (k : EvC d y cc nL tgt ls st N ce kc ks N' ce') : EvC d y cc nL pc ls st N ce kc ks N' ce' := by
  intro l R N0 ρ0 ρ cT D A p e s m args below meth c H locs cells slots fc fs al hR hF hE hA hX hN hW hB hM hS hls hst hL
  exact lv_goto hX.1 hX.2.1 hd ht (k l R N0 ρ0 ρ cT D A p e s m args below meth c H locs cells slots fc fs al hR hF hE hA hX hN hW hB hM hS hls hst hL)

theorem C_ret {d : Nat} {y : MethodName} {cc : ByteArray} {nL : Nat} {pc : Nat} {ls : List (Option V)} {N : Nat} {ce : Nat → CE} (hd : decode cc pc = .ok (.return_, 1)) : EvC d y cc nL pc ls [] N ce 0 0 N ce := by
  intro l R N0 ρ0 ρ cT D A p e s m args below meth c H locs cells slots fc fs al hR hF hE hA hX hN hW hB hM hS hls hst hL
  obtain ⟨rfl, rfl⟩ := hF
  exact W.vret hX.1 hX.2.1 hX.2.2.2.1 (fun t ht hw => ⟨rfl, ⟨ρ, hE.1, by rw [ht]; exact hW.1, va_K.moved hw.alike hW.2.1, hW.2.2⟩, hS.F ht⟩) hS.2.2 hd hX.2.2.2.2.2.2
theorem C_objInit {d : Nat} {y : MethodName} {cc : ByteArray} {nL : Nat} {pc : Nat} {ls : List (Option V)} {st : List V} {N : Nat} {ce : Nat → CE} {kc ks N' : Nat} {ce' : Nat → CE} {idx t n a : Nat} (hl : Cond.methodLink y.cls idx Lib.objectInit ∈ tb) (hi : Cond.instanceMethod Lib.objectInit ∈ tb) (hc : Cond.code Lib.objectInit ⟨#[0xb1]⟩ 1 none ∈ tb) (hd : decode cc pc = .ok (.invokespecial idx, 3)) (hroom : (st.map catV).sum ≤ 8) (k : EvC d y cc nL (pc + 3) ls st N ce kc ks N' ce') : EvC d y cc nL pc ls (vr t n a :: st) N ce kc ks N' ce' := by
  intro l R N0 ρ0 ρ cT D A p e s m args below meth c H locs cells slots fc fs al hR hF hE hA hX hN hW hB hM hS hls hst hL
  refine W.objInit hX.1 hX.2.1 hX.2.2.2.2.1 (hX.2.2.2.2.2.1 _ hl) (hX.2.2.2.2.2.1 _ hi) (hX.2.2.2.2.2.1 _ hc) rfl (hL.2.1.trans hX.2.2.1.symm) rfl hd (Nat.le_trans (Nat.succ_le_succ (Nat.zero_le _)) hR.1) ?_ (k l R N0 ρ0 ρ cT D A p e s m args below meth c H locs cells slots fc fs al hR hF hE hA hX hN hW hB hM hS hls hst.tl hL)
  have := lv_room (m := m) (pc := pc) (ls := al) (rest := st.map (toV ρ)) (st := st.map (toV ρ)) (by rw [cat_sum]; exact hroom)
  have h2 : 2 * (F0 m pc al (List.map (toV ρ) (vr t n a :: st))).monitorRoom + (((st.map (toV ρ)).map fun v => v.category).sum) ≤ 8 := this
  have := hR.2.1
  omega

/-- after a new cell -/
theorem C_grow {d : Nat} {y : MethodName} {cc : ByteArray} {nL : Nat} {pc : Nat} {ls : List (Option V)} {st : List V} {N : Nat} {ce : Nat → CE} {kc ks N' : Nat} {ce' : Nat → CE} {x : CE} {t n : Nat} (hx : CC N x) (k : EvC d y cc nL pc ls (vr t n N :: st) (N + 1) (va_up ce N x) kc ks N' ce')
    {l : Launch} {R : Room} {N0 : Nat} {ρ0 ρ : Nat → Nat} {cT : Nat → ClassId} {D : va_G} {A : Nat → Prop} {p : Program} {e : Env} {s : State} {m : MethodId} {args : Array Value} {below : List Frame} {meth : Method} {c : Code} {H : Heap} {locs : List Loc} {cells slots fc fs : Nat} {al : Array Slot} {q : Nat}
    (hR : d + 1 ≤ R.frames ∧ 40 * (d + 1) ≤ R.locals ∧ fc ≤ R.cells ∧ fs ≤ R.slots) (hF : cells + kc = fc ∧ slots + ks = fs) (hE : Ext N0 ρ0 ρ ∧ N0 ≤ N ∧ N + 1 < 900000) (hA : ∀ q, s.heap.size ≤ q → A q) (hX : Cx y cc nL none p s m args meth c) (hN : meth.name = "<init>") (hwf : WF N ce) (hP : va_P D CL (wc N ce ρ cT ++ [(q, ceE ρ cT x)]) H) (hK : va_K D CL (tyz cT) s) (hD : va_D A (wc N ce ρ cT ++ [(q, ceE ρ cT x)])) (hB : Amb A ρ s s.heap) (hM : AmC s) (hS : va_S A s.heap H locs) (hls : LC N ls) (hst : SC N st) (hL : LR ρ al nL ls) :
    W p l e R s m args below meth c H locs cells slots (MQ below (QK N0 ρ0 N' ce' cT D A) args s fc fs A) (F0 m pc al (.ref q :: st.map (toV ρ))) := by
  have he : Ext N ρ (va_up ρ N q) := fun a ha => up_ne (by omega)
  rw [wc_push hwf hx (by omega)] at hP hD
  have hB' : Amb A (va_up ρ N q) s s.heap := by
    obtain ⟨h1, h2, h3, h4⟩ := hB
    have e0 : ∀ i, va_up ρ N q (1000000 + 2 * i) = ρ (1000000 + 2 * i) := fun i => he _ (Or.inr (by omega))
    have e1 : ∀ i, va_up ρ N q (1000001 + 2 * i) = ρ (1000001 + 2 * i) := fun i => he _ (Or.inr (by omega))
    refine ⟨?_, ?_, ?_, h4⟩
    · simp only [e0, e1]; exact h1
    · rw [he _ (Or.inr (by decide))]; exact h2
    · rw [he _ (Or.inr (by decide))]; exact h3
  have := k l R N0 ρ0 (va_up ρ N q) cT D A p e s m args below meth c H locs cells slots fc fs al hR hF ⟨hE.1.tr he hE.2.1, Nat.le_succ_of_le hE.2.1, hE.2.2⟩ hA hX hN ⟨hP, hK, hD, hwf.push hx⟩ hB' hM hS (fun v hv => (hls v hv).up (Nat.le_succ _)) (SC.cons (Nat.lt_succ_self N) (fun v hv => (hst v hv).up (Nat.le_succ _))) (hL.ext he hls)
  rw [List.map_cons, st_ext he hst] at this
  have e2 : toV (va_up ρ N q) (vr t n N) = .ref q := by
    show Value.ref (va_up ρ N q N) = _
    rw [up_same]
  rw [e2] at this
  exact this
theorem C_new {d : Nat} {y : MethodName} {cc : ByteArray} {nL : Nat} {pc : Nat} {ls : List (Option V)} {st : List V} {N : Nat} {ce : Nat → CE} {kc ks N' : Nat} {ce' : Nat → CE} {idx t n : Nat} {C : String} {T : u_T} (hc : CL[t]? = some (C, T, n)) (hin : ∀ w ∈ u_ws C T n, w ∈ tb) (ty : Nat → FieldType) (hty : ∀ k, k < n → parseFieldDescriptor (T k).2.2.1 = some (ty k)) (hcl : Cond.classLink y.cls idx C ∈ tb) (hinst : Cond.instantiable C n ∈ tb) (hini : Cond.initialized C ∈ tb) (fs : List (Option V)) (hfs : ∀ (ρ : Nat → Nat) (j : Nat), j < n → defaultValue (ty j) = vp_V (fs.map (cval ρ)) j) (hx : CC 0 (.inl (t, fs))) (hd : decode cc pc = .ok (.new idx, 3)) (hNb : N + 1 < 900000) (k : EvC d y cc nL (pc + 3) ls (vr t 0 N :: st) (N + 1) (va_up ce N (.inl (t, fs))) kc ks N' ce') : EvC d y cc nL pc ls st N ce (kc + 1) (ks + n) N' ce' := by
  intro l R N0 ρ0 ρ cT D A p e s m args below meth c H locs cells slots fc fs_ al hR hF hE hA hX hN hW hB hM hS hls hst hL
  refine va_new (ci := t) (fs := fs.map (cval ρ)) hX.1 hX.2.1 hX.2.2.2.2.2.1 hin ty hty hX.2.2.2.2.1 (hX.2.2.2.2.2.1 _ hcl) (hX.2.2.2.2.2.1 _ hinst) (hX.2.2.2.2.2.1 _ hini) hW.2.1 hW.1 hW.2.2.1 hS hA hc (hfs ρ) (by have := hR.2.2.1; omega) (by have := hR.2.2.2; omega) hd (fun q H1 hP hD hS1 => ?_)
  exact C_grow (x := .inl (t, fs)) (hx.up (Nat.zero_le _)) k hR ⟨by omega, by omega⟩ ⟨hE.1, hE.2.1, hNb⟩ hA hX hN hW.2.2.2 hP hW.2.1 hD hB hM hS1 hls hst hL

theorem C_newi {d : Nat} {y : MethodName} {cc : ByteArray} {nL : Nat} {pc : Nat} {ls : List (Option V)} {st : List V} {N : Nat} {ce : Nat → CE} {kc ks N' : Nat} {ce' : Nat → CE} {x : Int32} (n : Nat) (ha : Cond.arrayClass .int ∈ tb) (h0 : ¬ x < 0) (hn : x.toNatClampNeg = n) (hb : n ≤ 60000000) (hd : decode cc pc = .ok (.newarray .int, 2)) (hNb : N + 1 < 900000) (k : EvC d y cc nL (pc + 2) ls (vr 11 n N :: st) (N + 1) (va_up ce N (.inr (11, n, .inl (fun _ => 0)))) kc ks N' ce') : EvC d y cc nL pc ls (vi x :: st) N ce (kc + 1) (ks + n) N' ce' := by
  intro l R N0 ρ0 ρ cT D A p e s m args below meth c H locs cells slots fc fs al hR hF hE hA hX hN hW hB hM hS hls hst hL
  refine va_newa (a0 := (n, .inl (fun _ => 0))) (ty := .int) (atype := .int) hX.1 hX.2.1 (hX.2.2.2.2.2.1 (Cond.arrayClass .int) ha) rfl hW.2.1 hW.1 hW.2.2.1 hS hA (fun cA => rfl) h0 hn (by show n * _ ≤ _; simp [componentBytes]; omega) (by have := hR.2.2.1; omega) (by have := hR.2.2.2; omega) hd (fun q cA H1 hK1 hP hD hS1 => ?_)
  have e1 : s.vm.findClass ("[" ++ FieldType.toString .int) = some cA := (hK1.2 7 (cA, .int) rfl).2
  have e2 : s.vm.findClass ("[" ++ FieldType.toString .int) = some (cT 11) := (hW.2.1.2 0 (cT 11, .int) rfl).2
  have e3 : cA = cT 11 := Option.some.inj (e1.symm.trans e2)
  subst e3
  exact C_grow (x := .inr (11, n, .inl (fun _ => 0))) trivial k hR ⟨by omega, by omega⟩ ⟨hE.1, hE.2.1, hNb⟩ hA hX hN hW.2.2.2 hP hW.2.1 hD hB hM hS1 hls hst.tl hL

theorem C_newb {d : Nat} {y : MethodName} {cc : ByteArray} {nL : Nat} {pc : Nat} {ls : List (Option V)} {st : List V} {N : Nat} {ce : Nat → CE} {kc ks N' : Nat} {ce' : Nat → CE} {x : Int32} (n : Nat) (ha : Cond.arrayClass .byte ∈ tb) (h0 : ¬ x < 0) (hn : x.toNatClampNeg = n) (hb : n ≤ 60000000) (hd : decode cc pc = .ok (.newarray .byte, 2)) (hNb : N + 1 < 900000) (k : EvC d y cc nL (pc + 2) ls (vr 12 n N :: st) (N + 1) (va_up ce N (.inr (12, n, .inl (fun _ => 0)))) kc ks N' ce') : EvC d y cc nL pc ls (vi x :: st) N ce (kc + 1) (ks + n) N' ce' := by
  intro l R N0 ρ0 ρ cT D A p e s m args below meth c H locs cells slots fc fs al hR hF hE hA hX hN hW hB hM hS hls hst hL
  refine va_newa (a0 := (n, .inl (fun _ => 0))) (ty := .byte) (atype := .byte) hX.1 hX.2.1 (hX.2.2.2.2.2.1 (Cond.arrayClass .byte) ha) rfl hW.2.1 hW.1 hW.2.2.1 hS hA (fun cA => rfl) h0 hn (by show n * _ ≤ _; simp [componentBytes]; omega) (by have := hR.2.2.1; omega) (by have := hR.2.2.2; omega) hd (fun q cA H1 hK1 hP hD hS1 => ?_)
  have e1 : s.vm.findClass ("[" ++ FieldType.toString .byte) = some cA := (hK1.2 7 (cA, .byte) rfl).2
  have e2 : s.vm.findClass ("[" ++ FieldType.toString .byte) = some (cT 12) := (hW.2.1.2 1 (cT 12, .byte) rfl).2
  have e3 : cA = cT 12 := Option.some.inj (e1.symm.trans e2)
  subst e3
  exact C_grow (x := .inr (12, n, .inl (fun _ => 0))) trivial k hR ⟨by omega, by omega⟩ ⟨hE.1, hE.2.1, hNb⟩ hA hX hN hW.2.2.2 hP hW.2.1 hD hB hM hS1 hls hst.tl hL

theorem C_newl {d : Nat} {y : MethodName} {cc : ByteArray} {nL : Nat} {pc : Nat} {ls : List (Option V)} {st : List V} {N : Nat} {ce : Nat → CE} {kc ks N' : Nat} {ce' : Nat → CE} {x : Int32} (n : Nat) (ha : Cond.arrayClass .long ∈ tb) (h0 : ¬ x < 0) (hn : x.toNatClampNeg = n) (hb : n ≤ 60000000) (hd : decode cc pc = .ok (.newarray .long, 2)) (hNb : N + 1 < 900000) (k : EvC d y cc nL (pc + 2) ls (vr 13 n N :: st) (N + 1) (va_up ce N (.inr (13, n, .inr (.inl (fun _ => 0))))) kc ks N' ce') : EvC d y cc nL pc ls (vi x :: st) N ce (kc + 1) (ks + n) N' ce' := by
  intro l R N0 ρ0 ρ cT D A p e s m args below meth c H locs cells slots fc fs al hR hF hE hA hX hN hW hB hM hS hls hst hL
  refine va_newa (a0 := (n, .inr (.inl (fun _ => 0)))) (ty := .long) (atype := .long) hX.1 hX.2.1 (hX.2.2.2.2.2.1 (Cond.arrayClass .long) ha) rfl hW.2.1 hW.1 hW.2.2.1 hS hA (fun cA => rfl) h0 hn (by show n * _ ≤ _; simp [componentBytes]; omega) (by have := hR.2.2.1; omega) (by have := hR.2.2.2; omega) hd (fun q cA H1 hK1 hP hD hS1 => ?_)
  have e1 : s.vm.findClass ("[" ++ FieldType.toString .long) = some cA := (hK1.2 7 (cA, .long) rfl).2
  have e2 : s.vm.findClass ("[" ++ FieldType.toString .long) = some (cT 13) := (hW.2.1.2 2 (cT 13, .long) rfl).2
  have e3 : cA = cT 13 := Option.some.inj (e1.symm.trans e2)
  subst e3
  exact C_grow (x := .inr (13, n, .inr (.inl (fun _ => 0)))) trivial k hR ⟨by omega, by omega⟩ ⟨hE.1, hE.2.1, hNb⟩ hA hX hN hW.2.2.2 hP hW.2.1 hD hB hM hS1 hls hst.tl hL

theorem C_newz {d : Nat} {y : MethodName} {cc : ByteArray} {nL : Nat} {pc : Nat} {ls : List (Option V)} {st : List V} {N : Nat} {ce : Nat → CE} {kc ks N' : Nat} {ce' : Nat → CE} {x : Int32} (n : Nat) (ha : Cond.arrayClass .boolean ∈ tb) (h0 : ¬ x < 0) (hn : x.toNatClampNeg = n) (hb : n ≤ 60000000) (hd : decode cc pc = .ok (.newarray .boolean, 2)) (hNb : N + 1 < 900000) (k : EvC d y cc nL (pc + 2) ls (vr 14 n N :: st) (N + 1) (va_up ce N (.inr (14, n, .inl (fun _ => 0)))) kc ks N' ce') : EvC d y cc nL pc ls (vi x :: st) N ce (kc + 1) (ks + n) N' ce' := by
  intro l R N0 ρ0 ρ cT D A p e s m args below meth c H locs cells slots fc fs al hR hF hE hA hX hN hW hB hM hS hls hst hL
  refine va_newa (a0 := (n, .inl (fun _ => 0))) (ty := .boolean) (atype := .boolean) hX.1 hX.2.1 (hX.2.2.2.2.2.1 (Cond.arrayClass .boolean) ha) rfl hW.2.1 hW.1 hW.2.2.1 hS hA (fun cA => rfl) h0 hn (by show n * _ ≤ _; simp [componentBytes]; omega) (by have := hR.2.2.1; omega) (by have := hR.2.2.2; omega) hd (fun q cA H1 hK1 hP hD hS1 => ?_)
  have e1 : s.vm.findClass ("[" ++ FieldType.toString .boolean) = some cA := (hK1.2 7 (cA, .boolean) rfl).2
  have e2 : s.vm.findClass ("[" ++ FieldType.toString .boolean) = some (cT 14) := (hW.2.1.2 3 (cT 14, .boolean) rfl).2
  have e3 : cA = cT 14 := Option.some.inj (e1.symm.trans e2)
  subst e3
  exact C_grow (x := .inr (14, n, .inl (fun _ => 0))) trivial k hR ⟨by omega, by omega⟩ ⟨hE.1, hE.2.1, hNb⟩ hA hX hN hW.2.2.2 hP hW.2.1 hD hB hM hS1 hls hst.tl hL

theorem C_newq {d : Nat} {y : MethodName} {cc : ByteArray} {nL : Nat} {pc : Nat} {ls : List (Option V)} {st : List V} {N : Nat} {ce : Nat → CE} {kc ks N' : Nat} {ce' : Nat → CE} {x : Int32} {idx : Nat} (n : Nat) (hcl : Cond.classLink y.cls idx RX5 ∈ tb) (h0 : ¬ x < 0) (hn : x.toNatClampNeg = n) (hb : n ≤ 60000000) (hd : decode cc pc = .ok (.anewarray idx, 3)) (hNb : N + 1 < 900000) (k : EvC d y cc nL (pc + 3) ls (vr 15 n N :: st) (N + 1) (va_up ce N (.inr (15, n, .inr (.inr (fun _ => none))))) kc ks N' ce') : EvC d y cc nL pc ls (vi x :: st) N ce (kc + 1) (ks + n) N' ce' := by
  intro l R N0 ρ0 ρ cT D A p e s m args below meth c H locs cells slots fc fs al hR hF hE hA hX hN hW hB hM hS hls hst hL
  refine va_newq hX.1 hX.2.1 hX.2.2.2.2.1 (hX.2.2.2.2.2.1 _ hcl) hM.1 hW.2.1 hW.1 hW.2.2.1 hS hA h0 hn (by omega) (by have := hR.2.2.1; omega) (by have := hR.2.2.2; omega) hd (fun q cA H1 hK1 hP hD hS1 => ?_)
  obtain ⟨_, _, _, _, _, e1⟩ := (hK1.2 7 (cA, .object RX5) rfl).2
  obtain ⟨_, _, _, _, _, e2⟩ := (hW.2.1.2 4 (cT 15, .object RX5) rfl).2
  have e3 : cA = cT 15 := Option.some.inj (e1.symm.trans e2)
  subst e3
  exact C_grow (x := .inr (15, n, .inr (.inr (fun _ => none)))) (fun j b z => by cases z) k hR ⟨by omega, by omega⟩ ⟨hE.1, hE.2.1, hNb⟩ hA hX hN hW.2.2.2 hP hW.2.1 hD hB hM hS1 hls hst.tl hL

/-- a fixed field can be put in its own constructor -/
def FQ (own : String) (t k : Nat) (ty : FieldType) : Prop := ∃ (C : String) (T : u_T) (n : Nat) (ty0 : Nat → FieldType), CL[t]? = some (C, T, n) ∧ (∀ k, k < n → parseFieldDescriptor (T k).2.2.1 = some (ty0 k)) ∧ (∀ a, a < n → ∀ b, b < n → a ≠ b → (T a).2.1 ≠ (T b).2.1) ∧ ((T k).2.2.2 = true ∧ (T k).1 = own) ∧ parseFieldDescriptor (T k).2.2.1 = some ty
theorem set_CC {N t : Nat} {fs : List (Option V)} {k : Nat} {v : V} (h : CC N (.inl (t, fs))) (hv : VC N v) : CC N (.inl (t, fs.set k (some v))) := by
  intro w hw
  rcases List.mem_or_eq_of_mem_set hw with q | q
  · exact h w q
  · cases q; exact hv

theorem C_put {d : Nat} {y : MethodName} {cc : ByteArray} {nL : Nat} {pc : Nat} {ls : List (Option V)} {st : List V} {N : Nat} {ce : Nat → CE} {kc ks N' : Nat} {ce' : Nat → CE} {t n a k idx : Nat} {v : V} {fs : List (Option V)} (ty : FieldType) (hf : FL y.cls idx t k) (hp : FP t k ty) (hcell : ce a = .inl (t, fs)) (hlen : k < fs.length) (hn : ∀ ρ, narrow ty (toV ρ v) = toV ρ v) (hfit : ∀ ρ, fits ty (toV ρ v) = true) (hd : decode cc pc = .ok (.putfield idx, 3)) (kk : EvC d y cc nL (pc + 3) ls st N (va_up ce a (.inl (t, fs.set k (some v)))) kc ks N' ce') : EvC d y cc nL pc ls (v :: vr t n a :: st) N ce kc ks N' ce' := by
  intro l R N0 ρ0 ρ cT D A p e s m args below meth c H locs cells slots fc fs_ al hR hF hE hA hX hN hW hB hM hS hls hst hL
  obtain ⟨C, T, nn, h1, h2, h3, h4, h5, h6, h7⟩ := hf
  obtain ⟨C', T', n', ty0, g1, g2, g3, g4, g5⟩ := hp
  cases h1.symm.trans g1
  have ha : a < N := hst.tl.hd
  have hwa : (wc N ce ρ cT)[a]? = some (ρ a, .inr (t, fs.map (cval ρ))) := by rw [wc_get ha, hcell]; rfl
  refine va_put (D := D) hX.1 hX.2.1 hX.2.2.2.2.2.1 h2 ty0 g2 g3 hX.2.2.2.2.1 hW.2.1 hW.1 hW.2.2.1 hS a hwa h1 k h3 (hX.2.2.2.2.2.1 _ h6) (fun x hx => by rw [h7] at hx; exact hx) g4 g5 (hn ρ) (hfit ρ) (by rw [List.length_map]; exact hlen) hd (fun H1 locs1 hP hD hS1 => ?_)
  have hws : (wc N ce ρ cT).set a (ρ a, .inr (t, (fs.map (cval ρ)).set k (toV ρ v))) = wc N (va_up ce a (.inl (t, fs.set k (some v)))) ρ cT := by
    rw [← wc_set]
    show _ = (wc N ce ρ cT).set a (ρ a, .inr (t, (fs.set k (some v)).map (cval ρ)))
    rw [List.map_set]
    rfl
  have hP : va_P D CL ((wc N ce ρ cT).set a (ρ a, .inr (t, (fs.map (cval ρ)).set k (toV ρ v)))) H1 := hP
  have hD : va_D A ((wc N ce ρ cT).set a (ρ a, .inr (t, (fs.map (cval ρ)).set k (toV ρ v)))) := hD
  rw [hws] at hP hD
  have hcc : CC N (.inl (t, fs)) := by have := hW.2.2.2 a ha; rw [hcell] at this; exact this
  exact kk l R N0 ρ0 ρ cT D A p e s m args below meth c H1 locs1 cells slots fc fs_ al hR hF hE hA hX hN ⟨hP, hW.2.1, hD, hW.2.2.2.set (set_CC hcc hst.hd)⟩ hB hM hS1 hls hst.tl.tl hL

theorem C_putF {d : Nat} {y : MethodName} {cc : ByteArray} {nL : Nat} {pc : Nat} {ls : List (Option V)} {st : List V} {N : Nat} {ce : Nat → CE} {kc ks N' : Nat} {ce' : Nat → CE} {t n a k idx : Nat} {v : V} {fs : List (Option V)} (ty : FieldType) (hf : FL y.cls idx t k) (hp : FQ y.cls t k ty) (hcell : ce a = .inl (t, fs)) (hlen : k < fs.length) (hn : ∀ ρ, narrow ty (toV ρ v) = toV ρ v) (hfit : ∀ ρ, fits ty (toV ρ v) = true) (hd : decode cc pc = .ok (.putfield idx, 3)) (kk : EvC d y cc nL (pc + 3) ls st N (va_up ce a (.inl (t, fs.set k (some v)))) kc ks N' ce') : EvC d y cc nL pc ls (v :: vr t n a :: st) N ce kc ks N' ce' := by
  intro l R N0 ρ0 ρ cT D A p e s m args below meth c H locs cells slots fc fs_ al hR hF hE hA hX hN hW hB hM hS hls hst hL
  obtain ⟨C, T, nn, h1, h2, h3, h4, h5, h6, h7⟩ := hf
  obtain ⟨C', T', n', ty0, g1, g2, g3, g4, g5⟩ := hp
  cases h1.symm.trans g1
  have ha : a < N := hst.tl.hd
  have hwa : (wc N ce ρ cT)[a]? = some (ρ a, .inr (t, fs.map (cval ρ))) := by rw [wc_get ha, hcell]; rfl
  refine va_putF (D := D) hX.1 hX.2.1 hX.2.2.2.2.2.1 h2 ty0 g2 g3 hX.2.2.2.2.1 hW.2.1 hW.1 hW.2.2.1 hS a hwa h1 k h3 (hX.2.2.2.2.2.1 _ h6) (fun x hx => by rw [h7] at hx; exact hx) g4.1 hN g4.2 g5 (hn ρ) (hfit ρ) (by rw [List.length_map]; exact hlen) hd (fun H1 locs1 hP hD hS1 => ?_)
  have hws : (wc N ce ρ cT).set a (ρ a, .inr (t, (fs.map (cval ρ)).set k (toV ρ v))) = wc N (va_up ce a (.inl (t, fs.set k (some v)))) ρ cT := by
    rw [← wc_set]
    show _ = (wc N ce ρ cT).set a (ρ a, .inr (t, (fs.set k (some v)).map (cval ρ)))
    rw [List.map_set]
    rfl
  have hP : va_P D CL ((wc N ce ρ cT).set a (ρ a, .inr (t, (fs.map (cval ρ)).set k (toV ρ v)))) H1 := hP
  have hD : va_D A ((wc N ce ρ cT).set a (ρ a, .inr (t, (fs.map (cval ρ)).set k (toV ρ v)))) := hD
  rw [hws] at hP hD
  have hcc : CC N (.inl (t, fs)) := by have := hW.2.2.2 a ha; rw [hcell] at this; exact this
  exact kk l R N0 ρ0 ρ cT D A p e s m args below meth c H1 locs1 cells slots fc fs_ al hR hF hE hA hX hN ⟨hP, hW.2.1, hD, hW.2.2.2.set (set_CC hcc hst.hd)⟩ hB hM hS1 hls hst.tl.tl hL

theorem C_getR {d : Nat} {y : MethodName} {cc : ByteArray} {nL : Nat} {pc : Nat} {ls : List (Option V)} {st : List V} {N : Nat} {ce : Nat → CE} {kc ks N' : Nat} {ce' : Nat → CE} {t n a k idx : Nat} {v : V} {fs : List (Option V)} (hf : FL y.cls idx t k) (hcell : ce a = .inl (t, fs)) (hv : fs[k]? = some (some v)) (hd : decode cc pc = .ok (.getfield idx, 3)) (kk : EvC d y cc nL (pc + 3) ls (v :: st) N ce kc ks N' ce') : EvC d y cc nL pc ls (vr t n a :: st) N ce kc ks N' ce' := by
  intro l R N0 ρ0 ρ cT D A p e s m args below meth c H locs cells slots fc fs_ al hR hF hE hA hX hN hW hB hM hS hls hst hL
  obtain ⟨C, T, nn, h1, h2, h3, h4, h5, h6, h7⟩ := hf
  have ha : a < N := hst.hd
  have hwa : (wc N ce ρ cT)[a]? = some (ρ a, .inr (t, fs.map (cval ρ))) := by rw [wc_get ha, hcell]; rfl
  have hcc : CC N (.inl (t, fs)) := by have := hW.2.2.2 a ha; rw [hcell] at this; exact this
  exact va_get (D := D) hX.1 hX.2.1 hX.2.2.2.2.2.1 h2 hX.2.2.2.2.1 hW.2.1 hW.1 a hwa h1 k h3 (hX.2.2.2.2.2.1 _ h6) (fun x hx => by rw [h7] at hx; exact hx) (v := toV ρ v) (by rw [List.getElem?_map, hv]; rfl) hd (kk l R N0 ρ0 ρ cT D A p e s m args below meth c H locs cells slots fc fs_ al hR hF hE hA hX hN hW hB hM hS hls (SC.cons (hcc v (List.mem_of_getElem? hv)) hst.tl) hL)
theorem C_aast {d : Nat} {y : MethodName} {cc : ByteArray} {nL : Nat} {pc : Nat} {ls : List (Option V)} {st : List V} {N : Nat} {ce : Nat → CE} {kc ks N' : Nat} {ce' : Nat → CE} {n n5 a b : Nat} {i : Int32} {f : Nat → Option Nat} {fs : List (Option V)} (hcell : ce a = .inr (15, n, .inr (.inr f))) (hb : ce b = .inl (5, fs)) (hin : vp_in i n) (hd : decode cc pc = .ok (.aastore, 1)) (kk : EvC d y cc nL (pc + 1) ls st N (va_up ce a (.inr (15, n, .inr (.inr (va_up f i.toNatClampNeg (some b)))))) kc ks N' ce') : EvC d y cc nL pc ls (vr 5 n5 b :: vi i :: vr 15 n a :: st) N ce kc ks N' ce' := by
  intro l R N0 ρ0 ρ cT D A p e s m args below meth c H locs cells slots fc fs_ al hR hF hE hA hX hN hW hB hM hS hls hst hL
  have ha : a < N := hst.tl.tl.hd
  have hbN : b < N := hst.hd
  have hwa : (wc N ce ρ cT)[a]? = some (ρ a, .inl (cT 15, n, .inr (.inr (.inr (.inr (fun j => (f j).map ρ)))))) := by rw [wc_get ha, hcell]; rfl
  have hwb : (wc N ce ρ cT)[b]? = some (ρ b, .inr (5, fs.map (cval ρ))) := by rw [wc_get hbN, hb]; rfl
  refine va_astq (D := D) (r := (RX5, TX5, 6)) hX.1 hX.2.1 hW.2.1 hW.1 hW.2.2.1 hS a 4 b 5 hwa rfl hwb rfl hin hd (fun H1 locs1 hP hD hS1 => ?_)
  have hcc : CC N (.inr (15, n, .inr (.inr f))) := by have := hW.2.2.2 a ha; rw [hcell] at this; exact this
  have hws : (wc N ce ρ cT).set a (ρ a, .inl (cT 15, n, .inr (.inr (.inr (.inr (va_up (fun j => (f j).map ρ) i.toNatClampNeg (some (ρ b)))))))) = wc N (va_up ce a (.inr (15, n, .inr (.inr (va_up f i.toNatClampNeg (some b)))))) ρ cT := by
    rw [← wc_set]
    show _ = (wc N ce ρ cT).set a (ρ a, .inl (cT 15, n, .inr (.inr (.inr (.inr (fun j => ((va_up f i.toNatClampNeg (some b)) j).map ρ))))))
    have e9 : va_up (fun j => (f j).map ρ) i.toNatClampNeg (some (ρ b)) = fun j => ((va_up f i.toNatClampNeg (some b)) j).map ρ := by
      funext j
      unfold va_up
      by_cases hj : j = i.toNatClampNeg
      · rw [if_pos hj, if_pos hj]; rfl
      · rw [if_neg hj, if_neg hj]
    rw [e9]
  rw [hws] at hP hD
  refine kk l R N0 ρ0 ρ cT D A p e s m args below meth c H1 locs1 cells slots fc fs_ al hR hF hE hA hX hN ⟨hP, hW.2.1, hD, hW.2.2.2.set (fun j z e9 => ?_)⟩ hB hM hS1 hls hst.tl.tl.tl hL
  unfold va_up at e9
  by_cases hj : j = i.toNatClampNeg
  · rw [if_pos hj] at e9; cases e9; exact hbN
  · rw [if_neg hj] at e9; exact hcc j z e9
def rmC (d kc ks : Nat) : Room := { frames := d + 1, cells := kc, slots := ks, locals := 40 * (d + 1) }
def AC (N : Nat) (ρ : Nat → Nat) (sz : Nat) : Nat → Prop := fun q => Ain N ρ q ∨ sz ≤ q
def PreK (N : Nat) (ce : Nat → CE) (ρ : Nat → Nat) (cT : Nat → ClassId) (D : va_G) (sz : Nat) (U : State) : Prop := U.heap.size = sz ∧ WC N ce ρ cT D (AC N ρ sz) U U.heap ∧ Amb (AC N ρ sz) ρ U U.heap ∧ AmC U
/-- a constructor's contract -/
def MeC (d : Nat) (y : MethodName) (cc : ByteArray) (nL : Nat) (vs : List V) (N : Nat) (ce : Nat → CE) (kc ks N' : Nat) (ce' : Nat → CE) : Prop :=
  ∀ (l : Launch) (ρ : Nat → Nat) (cT : Nat → ClassId) (D : va_G) (sz : Nat), N < 900000 → (∀ v ∈ vs, VC N v) →
    Met l y (.code y cc nL none :: tb) (rmC d kc ks) (va_Pc (vs.map (toV ρ)) (PreK N ce ρ cT D sz)) (QK N ρ N' ce' cT D (AC N ρ sz)) kc ks (AC N ρ sz)
theorem MeC_of {d : Nat} {y : MethodName} {cc : ByteArray} {nL : Nat} {vs : List V} {N : Nat} {ce : Nat → CE} {kc ks N' : Nat} {ce' : Nat → CE} (ls : List (Option V)) (hls : entS vs ++ List.replicate (nL - (entS vs).length) none = ls) (hle : (entS vs).length ≤ nL) (hy : plainName y.cls = true) (hname : y.name = "<init>") (k : EvC d y cc nL 0 ls [] N ce kc ks N' ce') : MeC d y cc nL vs N ce kc ks N' ce' := by
  intro l ρ cT D sz hNb hv
  refine Met.ofW (cc := cc) (maxL := nL) (ret := none) hy rfl ?_
  intro p e s m args below meth c s₁ B hml hpc
  obtain ⟨rfl, rfl, hW, hA, hM⟩ := hpc
  have hX : Cx y cc nL none p s m _ meth c := ⟨B.exec, B.bytes, hml, B.returns, findClass_of_methodNamed B.named, fun w hw => atoms_spec (ws := .code y cc nL none :: tb) B.pre w (List.mem_cons_of_mem _ hw), B.notSynchronized⟩
  have hin : meth.name = "<init>" := (name_of_methodNamed B.named B.method).1.trans hname
  rw [lg_entry_eq]
  have hl := lv_entry (vs.map (toV ρ)) (n := nL) (by rw [entS_len]; exact hle)
  have hlen : ls.length = nL := by
    rw [← hls, List.length_append, List.length_replicate]
    omega
  refine k l (rmC d kc ks) N ρ ρ cT D (AC N ρ s.heap.size) p e s m _ below meth c s.heap [] 0 0 kc ks _ ⟨Nat.le_refl _, Nat.le_refl _, Nat.le_refl _, Nat.le_refl _⟩ ⟨Nat.zero_add _, Nat.zero_add _⟩ ⟨Ext.rf, Nat.le_refl _, hNb⟩ (fun q h => Or.inr h) hX hin hW hA hM va_S.rf ?_ (fun v hv => by cases hv) ⟨hlen, lv_mono hl ?_⟩
  · intro v hm
    rw [← hls] at hm
    rcases List.mem_append.mp hm with q | q
    · exact hv v (entS_mem vs v q)
    · cases List.eq_of_mem_replicate q
  · intro q hq
    obtain ⟨v, h1, h2⟩ := mem_lvl.mp hq
    rw [← hls] at h1
    by_cases hj : q.1 < (entS vs).length
    · rw [List.getElem?_append_left hj] at h1
      have := entS_at ρ vs 0 q.1 v h1
      rw [Nat.zero_add, ← h2] at this
      exact this
    · rw [List.getElem?_append_right (by omega)] at h1
      cases List.eq_of_mem_replicate (List.mem_of_getElem? h1)
theorem PreK_blind {N : Nat} {ce : Nat → CE} {ρ : Nat → Nat} {cT : Nat → ClassId} {D : va_G} {sz : Nat} {vs : List Value} : FrameBlind (va_Pc vs (PreK N ce ρ cT D sz)) := by
  intro a U g mk h
  obtain ⟨h1, h2, h3, h4, h5⟩ := h
  exact ⟨h1, h2, ⟨h3.1, va_K.moved (u := U) (U := U.calling g mk a) (Vm.Alike.refl U.vm) h3.2.1, h3.2.2⟩, Amb.same (s := U) (U := U.calling g mk a) rfl h4, AmC.same (s := U) (U := U.calling g mk a) rfl h5⟩
theorem Amb.ext {A : Nat → Prop} {N : Nat} {ρ ρ' : Nat → Nat} {s : State} {H : Heap} (he : Ext N ρ ρ') (h : Amb A ρ s H) : Amb A ρ' s H := by
  obtain ⟨h1, h2, h3, h4⟩ := h
  have e0 : ∀ i, ρ' (1000000 + 2 * i) = ρ (1000000 + 2 * i) := fun i => he _ (Or.inr (by omega))
  have e1 : ∀ i, ρ' (1000001 + 2 * i) = ρ (1000001 + 2 * i) := fun i => he _ (Or.inr (by omega))
  refine ⟨?_, ?_, ?_, h4⟩
  · simp only [e0, e1]; exact h1
  · rw [he _ (Or.inr (by decide))]; exact h2
  · rw [he _ (Or.inr (by decide))]; exact h3
section CtorCall
variable {d : Nat} {y : MethodName} {cc : ByteArray} {nL : Nat} {pc : Nat} {ls : List (Option V)} {st : List V} {N : Nat} {ce : Nat → CE} {kc ks N' : Nat} {ce' : Nat → CE}
variable {l : Launch} {R : Room} {N0 : Nat} {ρ0 ρ : Nat → Nat} {cT : Nat → ClassId} {D : va_G} {A : Nat → Prop} {p : Program} {e : Env} {s : State} {m : MethodId} {args : Array Value} {below : List Frame} {meth : Method} {c : Code} {H : Heap} {locs : List Loc} {cells slots fc fs : Nat} {al : Array Slot}
theorem AC_sub {q : Nat} (hA : ∀ q, s.heap.size ≤ q → A q) (hW : WC N ce ρ cT D A s H) (hS : va_S A s.heap H locs) (h : AC N ρ H.size q) : A q := by
  rcases h with ⟨a, ha, rfl⟩ | h
  · exact hW.2.2.1.2 a _ (wc_get ha)
  · exact hA q (Nat.le_trans hS.1 h)
theorem PreK_at {U : State} (hA : ∀ q, s.heap.size ≤ q → A q) (hW : WC N ce ρ cT D A s H) (hB : Amb A ρ s s.heap) (hM : AmC s) (hS : va_S A s.heap H locs) (hU : U.heap = H) (hw : s.WarmedH U.vm) : PreK N ce ρ cT D H.size U := by
  refine ⟨by rw [hU], ⟨by rw [hU]; exact hW.1, va_K.moved hw.alike hW.2.1, ⟨hW.2.2.1.1, fun k q hk => ?_⟩, hW.2.2.2⟩, ?_, hM.warm hw⟩
  · have hkN : k < N := by
      have := (List.getElem?_eq_some_iff.mp hk).1
      unfold wc at this
      rw [List.length_map, List.length_range] at this
      exact this
    rw [wc_get hkN] at hk
    cases hk
    exact Or.inl ⟨k, hkN, rfl⟩
  · rw [hU]
    exact ((hB.kept hS.2.1).narrow (fun q h => AC_sub hA hW hS h)).warm hw
theorem ctor_go {kc2 ks2 N2 : Nat} {ce2 : Nat → CE} {st0 : List Value} {a : Array Value} (hr : va_Run p l e R s m args below meth c H locs cells slots kc2 ks2 (F0 m pc al st0) (st.map (toV ρ)) (QK N ρ N2 ce2 cT D (AC N ρ H.size) a) (AC N ρ H.size)) (hN2 : N ≤ N2 ∧ N2 < 900000) (k : EvC d y cc nL (pc + 3) ls st N2 ce2 kc ks N' ce')
    (hR : d + 1 ≤ R.frames ∧ 40 * (d + 1) ≤ R.locals ∧ fc ≤ R.cells ∧ fs ≤ R.slots) (hF : cells + (kc + kc2) = fc ∧ slots + (ks + ks2) = fs) (hE : Ext N0 ρ0 ρ ∧ N0 ≤ N ∧ N < 900000) (hA : ∀ q, s.heap.size ≤ q → A q) (hX : Cx y cc nL none p s m args meth c) (hN : meth.name = "<init>") (hW : WC N ce ρ cT D A s H) (hB : Amb A ρ s s.heap) (hM : AmC s) (hS : va_S A s.heap H locs) (hls : LC N ls) (hst : SC N st) (hL : LR ρ al nL ls) :
    W p l e R s m args below meth c H locs cells slots (MQ below (QK N0 ρ0 N' ce' cT D A) args s fc fs A) (F0 m pc al st0) := by
  intro T hT X
  obtain ⟨v, st₀, t, T', L, h0, X', hL', e1, e2, ⟨hv, ⟨ρ', hE', hWt⟩, hz, hk⟩, hst'⟩ := hr T hT X
  have hv : v = none := by cases hv; rfl
  subst hv
  rw [h0] at hz hk
  have hvm : s.vm.Alike t.vm := by rw [← e2]; exact X'.warmed.alike
  have hin : ∀ q, AC N ρ H.size q → A q := fun q h => AC_sub hA hW hS h
  have k1 := k l R N0 ρ0 ρ' cT D A p e s m args below meth c T'.heap (locs ++ L) (cells + kc2) (slots + ks2) fc fs al hR ⟨by omega, by omega⟩ ⟨hE.1.tr hE' hE.2.1, Nat.le_trans hE.2.1 hN2.1, hN2.2⟩ hA hX hN ⟨by rw [e1]; exact hWt.1, va_K.moved hvm.symm hWt.2.1, hWt.2.2.1.weaken (fun _ q _ h => hin q.1 h), hWt.2.2.2⟩ (hB.ext hE') hM
    ⟨Nat.le_trans hS.1 (by rw [e1]; exact hz), fun q h1 h2 => by rw [e1, hk q (Nat.lt_of_lt_of_le h1 hS.1) (fun z => h2 (hin q z))]; exact hS.2.1 q h1 h2, fun q hq => by
      rcases List.mem_append.mp hq with h | h
      · exact hS.2.2 q h
      · exact hin _ (hL' q h)⟩ (fun v hv => (hls v hv).up hN2.1) (fun v hv => (hst v hv).up hN2.1) (hL.ext hE' hls)
  rw [st_ext hE' hst] at k1
  obtain ⟨t2, a1, b1⟩ := k1 T' rfl X'
  exact ⟨t2, hst' t2 a1, b1⟩
end CtorCall
/-- the words of a constructor -/
def IL (y : MethodName) (cc : ByteArray) (nL n : Nat) : Prop := y.name = "<init>" ∧ Cond.instanceMethod y ∈ tb ∧ Cond.initialized y.cls ∈ tb ∧ Cond.code y cc nL none ∈ tb ∧ (y.cls ≠ "java/lang/invoke/MethodHandle" ∧ y.cls ≠ "java/lang/invoke/VarHandle" ∧ (parseMethodDescriptor y.desc).map (fun d => d.parameters.length) = some n) ∧ nL ≤ 21
theorem C_callI {d : Nat} {y : MethodName} {cc : ByteArray} {nL : Nat} {pc : Nat} {ls : List (Option V)} {st : List V} {N : Nat} {ce : Nat → CE} {kc ks N' : Nat} {ce' : Nat → CE} {y2 : MethodName} {cc2 : ByteArray} {nL2 idx t n a : Nat} {stk : List V} {kc2 ks2 N2 : Nat} {ce2 : Nat → CE} (vs : List V) {k : Nat} (hw : IL y2 cc2 nL2 k) (hl : Cond.methodLink y.cls idx y2 ∈ tb) (hn : vs.length = k) (hs : stk = vs.reverse ++ vr t n a :: st) (hroom : (st.map catV).sum ≤ 8) (hd : decode cc pc = .ok (.invokespecial idx, 3)) (hNN : N ≤ N2 ∧ N2 < 900000) (hM : MeC d y2 cc2 nL2 (vr t n a :: vs) N ce kc2 ks2 N2 ce2) (kk : EvC (d + 1) y cc nL (pc + 3) ls st N2 ce2 kc ks N' ce') : EvC (d + 1) y cc nL pc ls stk N ce (kc + kc2) (ks + ks2) N' ce' := by
  intro l R N0 ρ0 ρ cT D A p e s m args below meth c H locs cells slots fc fs al hR hF hE hA hX hN hW hB hMc hS hls hst hL
  obtain ⟨w1, w3, w5, w6, w7, w8⟩ := hw
  subst hs
  have hvs : ∀ v ∈ vr t n a :: vs, VC N v := fun v hv => hst v (by
    rcases List.mem_cons.mp hv with rfl | q
    · exact List.mem_append.mpr (Or.inr List.mem_cons_self)
    · exact List.mem_append.mpr (Or.inl (List.mem_reverse.mpr q)))
  have hst2 : SC N st := fun v hv => hst v (List.mem_append.mpr (Or.inr (List.mem_cons_of_mem _ hv)))
  have hM := hM l ρ cT D H.size hE.2.2 hvs
  have hrun := va_runI (l := l) (e := e) (below := below) (meth := meth) (locs := locs) (cells := cells) (slots := slots) (g := F0 m pc al ((vs.reverse ++ vr t n a :: st).map (toV ρ))) (As := vs.map (toV ρ)) (rest := st.map (toV ρ)) (R := R) (H := H) (b := ρ a) (n := k) ⟨hX.1, hX.2.1, hX.2.2.1, hX.2.2.2.2.1, hX.2.2.2.2.2.1⟩ hM
    (cwI k hX.2.2.2.2.2.1 (tb_in w6) rfl rfl rfl (hX.2.2.2.2.2.1 _ w5) (hX.2.2.2.2.2.1 _ hl) (hX.2.2.2.2.2.1 _ w3) w1 w7 ⟨hR.1, by have := hR.2.1; show 8 + (nL2 + 11) + 40 * (d + 1) ≤ R.locals; omega⟩)
    ⟨PreK_blind, fun U hU hw => ⟨rfl, PreK_at hA hW hB hMc hS hU hw⟩⟩ rfl (by rw [List.length_map]; exact hn) hL.2.1 (by rw [List.map_append, List.map_reverse]; rfl) (lv_room (by rw [cat_sum]; exact hroom)) hd ⟨by have := hR.2.2.1; omega, by have := hR.2.2.2; omega⟩
  exact ctor_go hrun hNN kk hR hF hE hA hX hN hW hB hMc hS hls hst2 hL
theorem C_callIN {d : Nat} {y : MethodName} {cc : ByteArray} {nL : Nat} {pc : Nat} {ls : List (Option V)} {st : List V} {N : Nat} {ce : Nat → CE} {kc ks N' : Nat} {ce' : Nat → CE} {y2 : MethodName} {cc2 : ByteArray} {nL2 idx t n a : Nat} {stk : List V} {kc2 ks2 N2 : Nat} {ce2 : Nat → CE} (vs : List V) {k : Nat} (hw : IL y2 cc2 nL2 k) (hl : ∀ U, AmC U → va_Nw (.methodLinkNest y.cls idx y2 RX9) U) (hn : vs.length = k) (hs : stk = vs.reverse ++ vr t n a :: st) (hroom : (st.map catV).sum ≤ 8) (hd : decode cc pc = .ok (.invokespecial idx, 3)) (hNN : N ≤ N2 ∧ N2 < 900000) (hM : MeC d y2 cc2 nL2 (vr t n a :: vs) N ce kc2 ks2 N2 ce2) (kk : EvC (d + 1) y cc nL (pc + 3) ls st N2 ce2 kc ks N' ce') : EvC (d + 1) y cc nL pc ls stk N ce (kc + kc2) (ks + ks2) N' ce' := by
  intro l R N0 ρ0 ρ cT D A p e s m args below meth c H locs cells slots fc fs al hR hF hE hA hX hN hW hB hMc hS hls hst hL
  obtain ⟨w1, w3, w5, w6, w7, w8⟩ := hw
  subst hs
  have hvs : ∀ v ∈ vr t n a :: vs, VC N v := fun v hv => hst v (by
    rcases List.mem_cons.mp hv with rfl | q
    · exact List.mem_append.mpr (Or.inr List.mem_cons_self)
    · exact List.mem_append.mpr (Or.inl (List.mem_reverse.mpr q)))
  have hst2 : SC N st := fun v hv => hst v (List.mem_append.mpr (Or.inr (List.mem_cons_of_mem _ hv)))
  have hM := hM l ρ cT D H.size hE.2.2 hvs
  have hrun := va_runIN (l := l) (e := e) (below := below) (meth := meth) (locs := locs) (cells := cells) (slots := slots) (g := F0 m pc al ((vs.reverse ++ vr t n a :: st).map (toV ρ))) (As := vs.map (toV ρ)) (rest := st.map (toV ρ)) (R := R) (H := H) (b := ρ a) (n := k) ⟨hX.1, hX.2.1, hX.2.2.1, hX.2.2.2.2.1, hX.2.2.2.2.2.1⟩ hM
    ⟨va_cnB k hX.2.2.2.2.2.1 (tb_in w6) rfl rfl rfl (hl s hMc) (hX.2.2.2.2.2.1 _ w5) w7 ⟨hR.1, by have := hR.2.1; show 8 + (nL2 + 11) + 40 * (d + 1) ≤ R.locals; omega⟩, w1, hX.2.2.2.2.2.1 _ w3⟩
    ⟨PreK_blind, fun U hU hw => ⟨rfl, PreK_at hA hW hB hMc hS hU hw⟩⟩ rfl (by rw [List.length_map]; exact hn) hL.2.1 (by rw [List.map_append, List.map_reverse]; rfl) (lv_room (by rw [cat_sum]; exact hroom)) hd ⟨by have := hR.2.2.1; omega, by have := hR.2.2.2; omega⟩
  exact ctor_go hrun hNN kk hR hF hE hA hX hN hW hB hMc hS hls hst2 hL
