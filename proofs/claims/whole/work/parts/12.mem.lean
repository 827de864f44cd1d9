section AldA
variable {p : Program} {l : Launch} {e : Env} {R : Room} {s : State} {m : MethodId} {args : Array Value} {below : List Frame} {meth : Method} {c : Code} {H : Heap} {locs : List Loc} {cells slots : Nat} {Q : State → Prop}
variable {cc : ByteArray} {pc : Nat} {ls : Array Slot} {rest : List Value} {D : va_G} {cl : List vw_C} {a : Nat} {tys : List (ClassId × FieldType)} {ws : va_W}
/-- a row out of an array of arrays -/
theorem va_aldA (hexec : p.tables.exec = Jvm.exec) (hb : c.code = cc) (hK : va_K D cl tys s) (hP : va_P D cl ws H) (q0 t0 : Nat) {cA : ClassId} {C : FieldType} {n : Nat} {f : Nat → Option Nat} (ha : ws[q0]? = some (a, .inl (cA, n, .inr (.inr (.inr (.inr f)))))) (ht : tys[t0]? = some (cA, .array C)) {i : Int32} (hin : vp_in i n) (hdg : decode cc pc = .ok (.aaload, 1))
    (kk : W p l e R s m args below meth c H locs cells slots Q (F0 m (pc + 1) ls (va_rf (f i.toNatClampNeg) :: rest))) : W p l e R s m args below meth c H locs cells slots Q (F0 m pc ls (.int i :: .ref a :: rest)) := by
  have hlt : i.toNatClampNeg < n := Nat.not_le.mp fun q => hin (Or.inr q)
  exact W.aald (v := va_rf (f i.toNatClampNeg)) (ty := .array C) hexec hb (hP q0 _ ha) ((hK.2 t0 _ ht).1 n (fun j => va_rf (f j))) rfl (fun q => by cases q) (by show ¬ (i < 0 ∨ (arrV _ _ _).slots.size ≤ _); rw [arrV_size]; exact hin) (by show (arrV _ _ _).slots[_]? = _; rw [arrV_read _ _ hlt]) rfl rfl hdg kk
end AldA
/-! ===== the world's rows: a cell read, a cell written ===== -/
theorem wl_get {N : Nat} {sh : Nat → Nat × Nat} {ρ : Nat → Nat} {cT : Nat → ClassId} {μ : Mem} {a : Nat} (h : a < N) : (wl N sh ρ cT μ)[a]? = some (ρ a, cellE ρ cT μ a (sh a)) := by
  unfold wl
  rw [List.getElem?_map, List.getElem?_range h]
  rfl
theorem cellE_congr {ρ : Nat → Nat} {cT : Nat → ClassId} {μ ν : Mem} {a : Nat} {q : Nat × Nat} (h1 : ν.1 a = μ.1 a) (h2 : ν.2.1 a = μ.2.1 a) (h3 : ν.2.2 a = μ.2.2 a) : cellE ρ cT ν a q = cellE ρ cT μ a q := by
  unfold cellE fvals arrC
  rw [h1, h2]
  have : fval ρ ν q.1 a = fval ρ μ q.1 a := by
    funext k
    unfold fval
    rw [h1, h3]
  rw [this]
theorem wl_set {N : Nat} {sh : Nat → Nat × Nat} {ρ : Nat → Nat} {cT : Nat → ClassId} {μ ν : Mem} {a : Nat} {e : va_E} (he : cellE ρ cT ν a (sh a) = e) (ho : ∀ j, j ≠ a → ν.1 j = μ.1 j ∧ ν.2.1 j = μ.2.1 j ∧ ν.2.2 j = μ.2.2 j) : (wl N sh ρ cT μ).set a (ρ a, e) = wl N sh ρ cT ν := by
  apply List.ext_getElem?
  intro j
  by_cases hj : j < N
  · rw [wl_get hj]
    by_cases q : j = a
    · subst q
      rw [List.getElem?_set_self (by unfold wl; rw [List.length_map, List.length_range]; exact hj), he]
    · rw [List.getElem?_set_ne (fun z => q z.symm), wl_get hj]
      obtain ⟨h1, h2, h3⟩ := ho j q
      rw [cellE_congr h1 h2 h3]
  · rw [List.getElem?_eq_none (by rw [List.length_set]; unfold wl; rw [List.length_map, List.length_range]; omega), List.getElem?_eq_none (by unfold wl; rw [List.length_map, List.length_range]; omega)]
theorem fvals_get {ρ : Nat → Nat} {μ : Mem} {t a k : Nat} (h : k < nf t) : (fvals ρ μ t a)[k]? = some (fval ρ μ t a k) := by
  unfold fvals
  rw [List.getElem?_map, List.getElem?_range h]
  rfl
theorem fvals_len {ρ : Nat → Nat} {μ : Mem} {t a : Nat} : (fvals ρ μ t a).length = nf t := by
  unfold fvals
  rw [List.length_map, List.length_range]
theorem fvals_set {ρ : Nat → Nat} {μ ν : Mem} {t a k : Nat} {v : Value} (hk : k < nf t) (hv : fval ρ ν t a k = v) (ho : ∀ j, j ≠ k → fval ρ ν t a j = fval ρ μ t a j) : (fvals ρ μ t a).set k v = fvals ρ ν t a := by
  apply List.ext_getElem?
  intro j
  by_cases hj : j < nf t
  · rw [fvals_get hj]
    by_cases q : j = k
    · subst q
      rw [List.getElem?_set_self (by rw [fvals_len]; exact hj), hv]
    · rw [List.getElem?_set_ne (fun z => q z.symm), fvals_get hj, ho j q]
  · rw [List.getElem?_eq_none (by rw [List.length_set, fvals_len]; omega), List.getElem?_eq_none (by rw [fvals_len]; omega)]
theorem up_same {α : Type} {f : Nat → α} {k : Nat} {v : α} : va_up f k v k = v := if_pos rfl
theorem up_ne {α : Type} {f : Nat → α} {k j : Nat} {v : α} (h : j ≠ k) : va_up f k v j = f j := if_neg h
theorem upd_same {f : Nat → Int32} {k : Nat} {v : Int32} : upd f k v k = v := if_pos rfl
theorem upd_ne {f : Nat → Int32} {k j : Nat} {v : Int32} (h : j ≠ k) : upd f k v j = f j := if_neg h
/-- a field's link: own class and place in its pool, the field's class (by its number) and place -/
def FL (own : String) (idx t k : Nat) : Prop := ∃ (C : String) (T : u_T) (n : Nat), CL[t]? = some (C, T, n) ∧ (∀ w ∈ u_ws C T n, w ∈ tb) ∧ k < n ∧ nf t = n ∧ t < 11 ∧ Cond.fieldLink own idx C (T k).2.1 (T k).2.2.1 ∈ tb ∧ (T k).1 = C
/-- and it can be put: not a fixed one; its type -/
def FP (t k : Nat) (ty : FieldType) : Prop := ∃ (C : String) (T : u_T) (n : Nat) (ty0 : Nat → FieldType), CL[t]? = some (C, T, n) ∧ (∀ k, k < n → parseFieldDescriptor (T k).2.2.1 = some (ty0 k)) ∧ (∀ a, a < n → ∀ b, b < n → a ≠ b → (T a).2.1 ≠ (T b).2.1) ∧ (T k).2.2.2 = false ∧ parseFieldDescriptor (T k).2.2.1 = some ty
section MemRows
variable {d : Nat} {y : MethodName} {cc : ByteArray} {nL : Nat} {ret : Option FieldType} {pc : Nat} {ls : List (Option V)} {st : List V} {μ μ' : Mem} {r : Option V}
theorem cell_obj {ρ : Nat → Nat} {cT : Nat → ClassId} {μ : Mem} {a t n : Nat} {sh : Nat → Nat × Nat} (h : sh a = (t, n)) (ht : t < 11) : cellE ρ cT μ a (sh a) = .inr (t, fvals ρ μ t a) := by
  rw [h]
  exact if_pos ht
theorem cell_arr {ρ : Nat → Nat} {cT : Nat → ClassId} {μ : Mem} {a t n : Nat} {sh : Nat → Nat × Nat} (h : sh a = (t, n)) (ht : ¬ t < 11) : cellE ρ cT μ a (sh a) = .inl (cT t, n, arrC ρ μ t a) := by
  rw [h]
  exact if_neg ht
/-- a field that is a number -/
theorem Ev_getI {t n a k idx : Nat} (hf : FL y.cls idx t k) (h0 : (ft t k).1 = 0) (hd : decode cc pc = .ok (.getfield idx, 3)) (kk : Ev d y cc nL ret (pc + 3) ls (vi (μ.1 a k) :: st) μ r μ') : Ev d y cc nL ret pc ls (vr t n a :: st) μ r μ' := by
  intro l R N sh ρ cT D A p e s m args below meth c H locs cells slots al hR hC hB hX hW hA hS hls hst hL
  obtain ⟨C, T, nn, h1, h2, h3, h4, h5, h6, h7⟩ := hf
  obtain ⟨ha, hs⟩ : a < N ∧ sh a = (t, n) := VOK_lt (by omega) hst.hd
  refine va_get (D := D) hX.1 hX.2.1 hX.2.2.2.2.2.1 h2 hX.2.2.2.2.1 hW.2.1 hW.1 a (by rw [wl_get ha, cell_obj hs h5]) h1 k h3 (hX.2.2.2.2.2.1 _ h6) (fun x hx => by rw [h7] at hx; exact hx) (v := .int (μ.1 a k)) (by rw [fvals_get (by rw [h4]; exact h3)]; unfold fval; rw [h0]; try rfl) hd (kk l R N sh ρ cT D A p e s m args below meth c H locs cells slots al hR hC hB hX hW hA hS hls (SV.cons trivial hst.tl) hL)
/-- a field that is a fixed cell -/
theorem Ev_getF {t n a k idx : Nat} (t' n' o : Nat) (hf : FL y.cls idx t k) (h0 : ft t k = (2, t', n', o)) (hd : decode cc pc = .ok (.getfield idx, 3)) (kk : Ev d y cc nL ret (pc + 3) ls (vr t' n' (a + o) :: st) μ r μ') : Ev d y cc nL ret pc ls (vr t n a :: st) μ r μ' := by
  intro l R N sh ρ cT D A p e s m args below meth c H locs cells slots al hR hC hB hX hW hA hS hls hst hL
  obtain ⟨C, T, nn, h1, h2, h3, h4, h5, h6, h7⟩ := hf
  obtain ⟨ha, hs⟩ : a < N ∧ sh a = (t, n) := VOK_lt (by omega) hst.hd
  have hs' : sh a = (t, n) := hs
  have hcl := hC.2.1 a ha (by rw [hs']; exact h5) k (by rw [hs', h4]; exact h3) (by rw [hs', h0])
  rw [hs', h0] at hcl
  have hcl : VOK N sh (vr t' n' (a + o)) := VOK_mk (by have := hC.1 _ hcl.1; rw [hcl.2] at this; exact this) hcl
  refine va_get (D := D) hX.1 hX.2.1 hX.2.2.2.2.2.1 h2 hX.2.2.2.2.1 hW.2.1 hW.1 a (by rw [wl_get ha, cell_obj hs h5]) h1 k h3 (hX.2.2.2.2.2.1 _ h6) (fun x hx => by rw [h7] at hx; exact hx) (v := .ref (ρ (a + o))) (by rw [fvals_get (by rw [h4]; exact h3)]; unfold fval; rw [h0]; try rfl) hd (kk l R N sh ρ cT D A p e s m args below meth c H locs cells slots al hR hC hB hX hW hA hS hls (SV.cons hcl hst.tl) hL)
/-- a field that is a plan -/
theorem Ev_getP {t n a k idx : Nat} (hf : FL y.cls idx t k) (h0 : (ft t k).1 = 3) (hd : decode cc pc = .ok (.getfield idx, 3)) (kk : Ev d y cc nL ret (pc + 3) ls (vr 3 0 (μ.2.2 a k) :: st) μ r μ') : Ev d y cc nL ret pc ls (vr t n a :: st) μ r μ' := by
  intro l R N sh ρ cT D A p e s m args below meth c H locs cells slots al hR hC hB hX hW hA hS hls hst hL
  obtain ⟨C, T, nn, h1, h2, h3, h4, h5, h6, h7⟩ := hf
  obtain ⟨ha, hs⟩ : a < N ∧ sh a = (t, n) := VOK_lt (by omega) hst.hd
  have hs' : sh a = (t, n) := hs
  have hcl := hW.2.2.2 a ha (by rw [hs']; exact h5) k (by rw [hs', h4]; exact h3) (by rw [hs', h0])
  have hcl : VOK N sh (vr 3 0 (μ.2.2 a k)) := VOK_mk (by decide) hcl
  refine va_get (D := D) hX.1 hX.2.1 hX.2.2.2.2.2.1 h2 hX.2.2.2.2.1 hW.2.1 hW.1 a (by rw [wl_get ha, cell_obj hs h5]) h1 k h3 (hX.2.2.2.2.2.1 _ h6) (fun x hx => by rw [h7] at hx; exact hx) (v := .ref (ρ (μ.2.2 a k))) (by rw [fvals_get (by rw [h4]; exact h3)]; unfold fval; rw [h0]; try rfl) hd (kk l R N sh ρ cT D A p e s m args below meth c H locs cells slots al hR hC hB hX hW hA hS hls (SV.cons hcl hst.tl) hL)
theorem Dyn.sA {N : Nat} {sh : Nat → Nat × Nat} {μ : Mem} {a : Nat} {f : Nat → Int32} (h : Dyn N sh μ) : Dyn N sh (sA μ a f) := h
theorem Dyn.sB {N : Nat} {sh : Nat → Nat × Nat} {μ : Mem} {a : Nat} {f : Nat → Int64} (h : Dyn N sh μ) : Dyn N sh (sB μ a f) := h
/-- a number is put into a field -/
theorem Ev_putI {t n a k idx : Nat} {x : Int32} (ty : FieldType) (hf : FL y.cls idx t k) (hp : FP t k ty) (h0 : (ft t k).1 = 0) (hn : narrow ty (.int x) = .int x) (hfit : fits ty (.int x) = true) (hd : decode cc pc = .ok (.putfield idx, 3)) (kk : Ev d y cc nL ret (pc + 3) ls st (sI μ a k x) r μ') : Ev d y cc nL ret pc ls (vi x :: vr t n a :: st) μ r μ' := by
  intro l R N sh ρ cT D A p e s m args below meth c H locs cells slots al hR hC hB hX hW hA hS hls hst hL
  obtain ⟨C, T, nn, h1, h2, h3, h4, h5, h6, h7⟩ := hf
  obtain ⟨C', T', n', ty0, g1, g2, g3, g4, g5⟩ := hp
  cases h1.symm.trans g1
  obtain ⟨ha, hs⟩ : a < N ∧ sh a = (t, n) := VOK_lt (by omega) hst.tl.hd
  have hs' : sh a = (t, n) := hs
  have hkt : k < nf t := by rw [h4]; exact h3
  refine va_put (D := D) hX.1 hX.2.1 hX.2.2.2.2.2.1 h2 ty0 g2 g3 hX.2.2.2.2.1 hW.2.1 hW.1 hW.2.2.1 hS a (by rw [wl_get ha, cell_obj hs' h5]) h1 k h3 (hX.2.2.2.2.2.1 _ h6) (fun x hx => by rw [h7] at hx; exact hx) g4 g5 hn hfit (by rw [fvals_len]; exact hkt) hd (fun H1 locs1 hP hD hS1 => ?_)
  have hws : (wl N sh ρ cT μ).set a (ρ a, .inr (t, (fvals ρ μ t a).set k (.int x))) = wl N sh ρ cT (sI μ a k x) := by
    refine wl_set ?_ (fun j hj => ⟨up_ne hj, rfl, rfl⟩)
    rw [cell_obj hs' h5]
    congr 2
    refine (fvals_set hkt ?_ (fun j hj => ?_)).symm
    · unfold fval; rw [h0]; show Value.int ((va_up μ.1 a (upd (μ.1 a) k x)) a k) = _; rw [up_same, upd_same]
    · unfold fval; show (match (ft t j).1 with | 0 => Value.int ((va_up μ.1 a (upd (μ.1 a) k x)) a j) | 2 => _ | _ => _) = _; rw [up_same, upd_ne hj]; rfl
  have hP : va_P D CL ((wl N sh ρ cT μ).set a (ρ a, .inr (t, (fvals ρ μ t a).set k (.int x)))) H1 := hP
  have hD : va_D A ((wl N sh ρ cT μ).set a (ρ a, .inr (t, (fvals ρ μ t a).set k (.int x)))) := hD
  rw [hws] at hP hD
  exact kk l R N sh ρ cT D A p e s m args below meth c H1 locs1 cells slots al hR hC hB hX ⟨hP, hW.2.1, hD, hW.2.2.2⟩ hA hS1 hls hst.tl.tl hL
/-- a plan is put into a field -/
theorem Ev_putP {t n a k idx b : Nat} (hf : FL y.cls idx t k) (hp : FP t k (.object RX3)) (h0 : (ft t k).1 = 3) (hd : decode cc pc = .ok (.putfield idx, 3)) (kk : Ev d y cc nL ret (pc + 3) ls st (sP μ a k b) r μ') : Ev d y cc nL ret pc ls (vr 3 0 b :: vr t n a :: st) μ r μ' := by
  intro l R N sh ρ cT D A p e s m args below meth c H locs cells slots al hR hC hB hX hW hA hS hls hst hL
  obtain ⟨C, T, nn, h1, h2, h3, h4, h5, h6, h7⟩ := hf
  obtain ⟨C', T', n', ty0, g1, g2, g3, g4, g5⟩ := hp
  cases h1.symm.trans g1
  obtain ⟨ha, hs⟩ : a < N ∧ sh a = (t, n) := VOK_lt (by omega) hst.tl.hd
  have hb := VOK_lt (by decide) hst.hd
  have hs' : sh a = (t, n) := hs
  have hkt : k < nf t := by rw [h4]; exact h3
  refine va_put (D := D) hX.1 hX.2.1 hX.2.2.2.2.2.1 h2 ty0 g2 g3 hX.2.2.2.2.1 hW.2.1 hW.1 hW.2.2.1 hS a (by rw [wl_get ha, cell_obj hs' h5]) h1 k h3 (hX.2.2.2.2.2.1 _ h6) (fun x hx => by rw [h7] at hx; exact hx) g4 g5 rfl rfl (by rw [fvals_len]; exact hkt) hd (fun H1 locs1 hP hD hS1 => ?_)
  have hws : (wl N sh ρ cT μ).set a (ρ a, .inr (t, (fvals ρ μ t a).set k (.ref (ρ b)))) = wl N sh ρ cT (sP μ a k b) := by
    refine wl_set ?_ (fun j hj => ⟨rfl, rfl, up_ne hj⟩)
    rw [cell_obj hs' h5]
    congr 2
    refine (fvals_set hkt ?_ (fun j hj => ?_)).symm
    · unfold fval; rw [h0]; show Value.ref (ρ ((va_up μ.2.2 a (va_up (μ.2.2 a) k b)) a k)) = _; rw [up_same, up_same]
    · unfold fval; show (match (ft t j).1 with | 0 => _ | 2 => _ | _ => Value.ref (ρ ((va_up μ.2.2 a (va_up (μ.2.2 a) k b)) a j))) = _; rw [up_same, up_ne hj]; rfl
  rw [show (Value.ref (ρ b)) = toV ρ (vr 3 0 b) from rfl] at hws
  have hP : va_P D CL ((wl N sh ρ cT μ).set a (ρ a, .inr (t, (fvals ρ μ t a).set k (toV ρ (vr 3 0 b))))) H1 := hP
  have hD : va_D A ((wl N sh ρ cT μ).set a (ρ a, .inr (t, (fvals ρ μ t a).set k (toV ρ (vr 3 0 b))))) := hD
  rw [hws] at hP hD
  refine kk l R N sh ρ cT D A p e s m args below meth c H1 locs1 cells slots al hR hC hB hX ⟨hP, hW.2.1, hD, ?_⟩ hA hS1 hls hst.tl.tl hL
  intro a2 ha2 ht2 k2 hk2 hf2
  by_cases q : a2 = a
  · subst q
    by_cases q2 : k2 = k
    · subst q2
      have : (sP μ a2 k2 b).2.2 a2 k2 = b := by show (va_up μ.2.2 a2 (va_up (μ.2.2 a2) k2 b)) a2 k2 = b; rw [up_same, up_same]
      rw [this]
      exact hb
    · have : (sP μ a2 k b).2.2 a2 k2 = μ.2.2 a2 k2 := by show (va_up μ.2.2 a2 (va_up (μ.2.2 a2) k b)) a2 k2 = _; rw [up_same, up_ne q2]
      rw [this]
      exact hW.2.2.2 a2 ha2 ht2 k2 hk2 hf2
  · have : (sP μ a k b).2.2 a2 = μ.2.2 a2 := up_ne q
    rw [this]
    exact hW.2.2.2 a2 ha2 ht2 k2 hk2 hf2
theorem arrC_I {ρ : Nat → Nat} {μ : Mem} {t a : Nat} (h1 : t ≠ 13) (h2 : t < 15) : arrC ρ μ t a = .inl (μ.1 a) := by
  unfold arrC
  rw [if_neg h1, if_pos h2]
theorem Ev_iald {n a : Nat} {i : Int32} (hin : vp_in i n) (hd : decode cc pc = .ok (.iaload, 1)) (kk : Ev d y cc nL ret (pc + 1) ls (vi (μ.1 a i.toNatClampNeg) :: st) μ r μ') : Ev d y cc nL ret pc ls (vi i :: vr 11 n a :: st) μ r μ' := by
  intro l R N sh ρ cT D A p e s m args below meth c H locs cells slots al hR hC hB hX hW hA hS hls hst hL
  obtain ⟨ha, hs⟩ : a < N ∧ sh a = (11, n) := VOK_lt (by decide) hst.tl.hd
  exact va_iald hX.1 hX.2.1 hW.2.1 hW.1 a 0 (by rw [wl_get ha, cell_arr hs (by decide), arrC_I (by decide) (by decide)]) rfl hin hd (kk l R N sh ρ cT D A p e s m args below meth c H locs cells slots al hR hC hB hX hW hA hS hls (SV.cons trivial hst.tl.tl) hL)

theorem Ev_bald {n a : Nat} {i : Int32} (hin : vp_in i n) (hd : decode cc pc = .ok (.baload, 1)) (kk : Ev d y cc nL ret (pc + 1) ls (vi (μ.1 a i.toNatClampNeg) :: st) μ r μ') : Ev d y cc nL ret pc ls (vi i :: vr 12 n a :: st) μ r μ' := by
  intro l R N sh ρ cT D A p e s m args below meth c H locs cells slots al hR hC hB hX hW hA hS hls hst hL
  obtain ⟨ha, hs⟩ : a < N ∧ sh a = (12, n) := VOK_lt (by decide) hst.tl.hd
  exact va_bald hX.1 hX.2.1 hW.2.1 hW.1 a 1 (by rw [wl_get ha, cell_arr hs (by decide), arrC_I (by decide) (by decide)]) rfl hin hd (kk l R N sh ρ cT D A p e s m args below meth c H locs cells slots al hR hC hB hX hW hA hS hls (SV.cons trivial hst.tl.tl) hL)

theorem Ev_zald {n a : Nat} {i : Int32} (hin : vp_in i n) (hd : decode cc pc = .ok (.baload, 1)) (kk : Ev d y cc nL ret (pc + 1) ls (vi (μ.1 a i.toNatClampNeg) :: st) μ r μ') : Ev d y cc nL ret pc ls (vi i :: vr 14 n a :: st) μ r μ' := by
  intro l R N sh ρ cT D A p e s m args below meth c H locs cells slots al hR hC hB hX hW hA hS hls hst hL
  obtain ⟨ha, hs⟩ : a < N ∧ sh a = (14, n) := VOK_lt (by decide) hst.tl.hd
  exact va_zald hX.1 hX.2.1 hW.2.1 hW.1 a 3 (by rw [wl_get ha, cell_arr hs (by decide), arrC_I (by decide) (by decide)]) rfl hin hd (kk l R N sh ρ cT D A p e s m args below meth c H locs cells slots al hR hC hB hX hW hA hS hls (SV.cons trivial hst.tl.tl) hL)

theorem Ev_iast {n a : Nat} {i x : Int32} (hin : vp_in i n) (hd : decode cc pc = .ok (.iastore, 1)) (kk : Ev d y cc nL ret (pc + 1) ls st (sI μ a i.toNatClampNeg x) r μ') : Ev d y cc nL ret pc ls (vi x :: vi i :: vr 11 n a :: st) μ r μ' := by
  intro l R N sh ρ cT D A p e s m args below meth c H locs cells slots al hR hC hB hX hW hA hS hls hst hL
  obtain ⟨ha, hs'⟩ : a < N ∧ sh a = (11, n) := VOK_lt (by decide) hst.tl.tl.hd
  refine va_iast hX.1 hX.2.1 hW.2.1 hW.1 hW.2.2.1 hS a 0 (by rw [wl_get ha, cell_arr hs' (by decide), arrC_I (by decide) (by decide)]) rfl hin hd (fun H1 locs1 hP hD hS1 => ?_)
  have hws : (wl N sh ρ cT μ).set a (ρ a, .inl (cT 11, n, .inl (upd (μ.1 a) i.toNatClampNeg x))) = wl N sh ρ cT (sI μ a i.toNatClampNeg x) := by
    refine wl_set ?_ (fun j hj => ⟨up_ne hj, rfl, rfl⟩)
    rw [cell_arr hs' (by decide), arrC_I (by decide) (by decide)]
    show Sum.inl (cT 11, n, Sum.inl ((va_up μ.1 a (upd (μ.1 a) i.toNatClampNeg x)) a)) = _
    rw [up_same]
  rw [hws] at hP hD
  exact kk l R N sh ρ cT D A p e s m args below meth c H1 locs1 cells slots al hR hC hB hX ⟨hP, hW.2.1, hD, hW.2.2.2⟩ hA hS1 hls hst.tl.tl.tl hL

theorem Ev_bast {n a : Nat} {i x : Int32} (hin : vp_in i n) (hd : decode cc pc = .ok (.bastore, 1)) (kk : Ev d y cc nL ret (pc + 1) ls st (sI μ a i.toNatClampNeg (vp_nar .byte x)) r μ') : Ev d y cc nL ret pc ls (vi x :: vi i :: vr 12 n a :: st) μ r μ' := by
  intro l R N sh ρ cT D A p e s m args below meth c H locs cells slots al hR hC hB hX hW hA hS hls hst hL
  obtain ⟨ha, hs'⟩ : a < N ∧ sh a = (12, n) := VOK_lt (by decide) hst.tl.tl.hd
  refine va_bast hX.1 hX.2.1 hW.2.1 hW.1 hW.2.2.1 hS a 1 (by rw [wl_get ha, cell_arr hs' (by decide), arrC_I (by decide) (by decide)]) rfl hin hd (fun H1 locs1 hP hD hS1 => ?_)
  have hws : (wl N sh ρ cT μ).set a (ρ a, .inl (cT 12, n, .inl (upd (μ.1 a) i.toNatClampNeg (vp_nar .byte x)))) = wl N sh ρ cT (sI μ a i.toNatClampNeg (vp_nar .byte x)) := by
    refine wl_set ?_ (fun j hj => ⟨up_ne hj, rfl, rfl⟩)
    rw [cell_arr hs' (by decide), arrC_I (by decide) (by decide)]
    show Sum.inl (cT 12, n, Sum.inl ((va_up μ.1 a (upd (μ.1 a) i.toNatClampNeg (vp_nar .byte x))) a)) = _
    rw [up_same]
  rw [hws] at hP hD
  exact kk l R N sh ρ cT D A p e s m args below meth c H1 locs1 cells slots al hR hC hB hX ⟨hP, hW.2.1, hD, hW.2.2.2⟩ hA hS1 hls hst.tl.tl.tl hL

theorem Ev_zast {n a : Nat} {i x : Int32} (hin : vp_in i n) (hd : decode cc pc = .ok (.bastore, 1)) (kk : Ev d y cc nL ret (pc + 1) ls st (sI μ a i.toNatClampNeg (vp_nar .boolean x)) r μ') : Ev d y cc nL ret pc ls (vi x :: vi i :: vr 14 n a :: st) μ r μ' := by
  intro l R N sh ρ cT D A p e s m args below meth c H locs cells slots al hR hC hB hX hW hA hS hls hst hL
  obtain ⟨ha, hs'⟩ : a < N ∧ sh a = (14, n) := VOK_lt (by decide) hst.tl.tl.hd
  refine va_zast hX.1 hX.2.1 hW.2.1 hW.1 hW.2.2.1 hS a 3 (by rw [wl_get ha, cell_arr hs' (by decide), arrC_I (by decide) (by decide)]) rfl hin hd (fun H1 locs1 hP hD hS1 => ?_)
  have hws : (wl N sh ρ cT μ).set a (ρ a, .inl (cT 14, n, .inl (upd (μ.1 a) i.toNatClampNeg (vp_nar .boolean x)))) = wl N sh ρ cT (sI μ a i.toNatClampNeg (vp_nar .boolean x)) := by
    refine wl_set ?_ (fun j hj => ⟨up_ne hj, rfl, rfl⟩)
    rw [cell_arr hs' (by decide), arrC_I (by decide) (by decide)]
    show Sum.inl (cT 14, n, Sum.inl ((va_up μ.1 a (upd (μ.1 a) i.toNatClampNeg (vp_nar .boolean x))) a)) = _
    rw [up_same]
  rw [hws] at hP hD
  exact kk l R N sh ρ cT D A p e s m args below meth c H1 locs1 cells slots al hR hC hB hX ⟨hP, hW.2.1, hD, hW.2.2.2⟩ hA hS1 hls hst.tl.tl.tl hL

theorem Ev_lald {n a : Nat} {i : Int32} (hin : vp_in i n) (hd : decode cc pc = .ok (.laload, 1)) (kk : Ev d y cc nL ret (pc + 1) ls (vl (μ.2.1 a i.toNatClampNeg) :: st) μ r μ') : Ev d y cc nL ret pc ls (vi i :: vr 13 n a :: st) μ r μ' := by
  intro l R N sh ρ cT D A p e s m args below meth c H locs cells slots al hR hC hB hX hW hA hS hls hst hL
  obtain ⟨ha, hs⟩ : a < N ∧ sh a = (13, n) := VOK_lt (by omega) hst.tl.hd
  exact va_lald hX.1 hX.2.1 hW.2.1 hW.1 a 2 (by rw [wl_get ha, cell_arr hs (by decide)]; rfl) rfl hin hd (kk l R N sh ρ cT D A p e s m args below meth c H locs cells slots al hR hC hB hX hW hA hS hls (SV.cons trivial hst.tl.tl) hL)
theorem Ev_last {n a : Nat} {i : Int32} {x : Int64} (hin : vp_in i n) (hd : decode cc pc = .ok (.lastore, 1)) (kk : Ev d y cc nL ret (pc + 1) ls st (sJ μ a i.toNatClampNeg x) r μ') : Ev d y cc nL ret pc ls (vl x :: vi i :: vr 13 n a :: st) μ r μ' := by
  intro l R N sh ρ cT D A p e s m args below meth c H locs cells slots al hR hC hB hX hW hA hS hls hst hL
  obtain ⟨ha, hs⟩ : a < N ∧ sh a = (13, n) := VOK_lt (by omega) hst.tl.tl.hd
  have hs' : sh a = (13, n) := hs
  refine va_last hX.1 hX.2.1 hW.2.1 hW.1 hW.2.2.1 hS a 2 (by rw [wl_get ha, cell_arr hs' (by decide)]; rfl) rfl hin hd (fun H1 locs1 hP hD hS1 => ?_)
  have hws : (wl N sh ρ cT μ).set a (ρ a, .inl (cT 13, n, .inr (.inl (vp_updL (μ.2.1 a) i.toNatClampNeg x)))) = wl N sh ρ cT (sJ μ a i.toNatClampNeg x) := by
    refine wl_set ?_ (fun j hj => ⟨rfl, up_ne hj, rfl⟩)
    rw [cell_arr hs' (by decide)]
    unfold arrC
    rw [if_pos rfl]
    show Sum.inl (cT 13, n, Sum.inr (Sum.inl ((va_up μ.2.1 a (vp_updL (μ.2.1 a) i.toNatClampNeg x)) a))) = _
    rw [up_same]
  rw [hws] at hP hD
  exact kk l R N sh ρ cT D A p e s m args below meth c H1 locs1 cells slots al hR hC hB hX ⟨hP, hW.2.1, hD, hW.2.2.2⟩ hA hS1 hls hst.tl.tl.tl hL
theorem Ev_alen {t n a : Nat} (v : Int32) (ht : 11 ≤ t) (ht2 : t < 15) (hv : Int32.ofNat n = v) (hd : decode cc pc = .ok (.arraylength, 1)) (kk : Ev d y cc nL ret (pc + 1) ls (vi v :: st) μ r μ') : Ev d y cc nL ret pc ls (vr t n a :: st) μ r μ' := by
  intro l R N sh ρ cT D A p e s m args below meth c H locs cells slots al hR hC hB hX hW hA hS hls hst hL
  obtain ⟨ha, hs⟩ : a < N ∧ sh a = (t, n) := VOK_lt (by omega) hst.hd
  have k1 := kk l R N sh ρ cT D A p e s m args below meth c H locs cells slots al hR hC hB hX hW hA hS hls (SV.cons trivial hst.tl) hL
  have hc : (wl N sh ρ cT μ)[a]? = some (ρ a, .inl (cT t, n, arrC ρ μ t a)) := by rw [wl_get ha, cell_arr hs (by omega)]
  rcases (show t = 11 ∨ t = 12 ∨ t = 13 ∨ t = 14 by omega) with rfl | rfl | rfl | rfl
  · exact va_alen hX.1 hX.2.1 hW.2.1 hW.1 a 0 hc rfl hv hd k1
  · exact va_alen hX.1 hX.2.1 hW.2.1 hW.1 a 1 hc rfl hv hd k1
  · exact va_alen hX.1 hX.2.1 hW.2.1 hW.1 a 2 hc rfl hv hd k1
  · exact va_alen hX.1 hX.2.1 hW.2.1 hW.1 a 3 hc rfl hv hd k1
/-- a row of a row of rows, a scene of a row of scenes -/
theorem Ev_aald {t n a : Nat} {i : Int32} (t' n' o : Nat) (ht : 15 ≤ t) (ht2 : t < 18) (h0 : et t = (t', n', o)) (hin : vp_in i n) (hd : decode cc pc = .ok (.aaload, 1)) (kk : Ev d y cc nL ret (pc + 1) ls (vr t' n' (a + 1 + o * i.toNatClampNeg) :: st) μ r μ') : Ev d y cc nL ret pc ls (vi i :: vr t n a :: st) μ r μ' := by
  intro l R N sh ρ cT D A p e s m args below meth c H locs cells slots al hR hC hB hX hW hA hS hls hst hL
  obtain ⟨ha, hs⟩ : a < N ∧ sh a = (t, n) := VOK_lt (by omega) hst.tl.hd
  have hs' : sh a = (t, n) := hs
  have hlt : i.toNatClampNeg < n := Nat.not_le.mp fun q => hin (Or.inr q)
  have hcl := hC.2.2 a ha (by rw [hs']; exact ht) i.toNatClampNeg (by rw [hs']; exact hlt)
  rw [hs', h0] at hcl
  have hcl : VOK N sh (vr t' n' (a + 1 + o * i.toNatClampNeg)) := VOK_mk (by have := hC.1 _ hcl.1; rw [hcl.2] at this; exact this) hcl
  have k1 := kk l R N sh ρ cT D A p e s m args below meth c H locs cells slots al hR hC hB hX hW hA hS hls (SV.cons hcl hst.tl.tl) hL
  have hc : (wl N sh ρ cT μ)[a]? = some (ρ a, .inl (cT t, n, .inr (.inr (.inr (.inr (fun j => some (ρ (a + 1 + o * j)))))))) := by
    rw [wl_get ha, cell_arr hs (by omega)]
    unfold arrC
    rw [if_neg (by omega), if_neg (by omega), h0]
  rcases (show t = 15 ∨ t = 16 ∨ t = 17 by omega) with rfl | rfl | rfl
  · exact va_aldq hX.1 hX.2.1 hW.2.1 hW.1 a 4 hc rfl hin hd k1
  · exact va_aldA hX.1 hX.2.1 hW.2.1 hW.1 a 5 hc rfl hin hd k1
  · exact va_aldA hX.1 hX.2.1 hW.2.1 hW.1 a 6 hc rfl hin hd k1
end MemRows
