/-! ===== entry and calls ===== -/
def entS : List V → List (Option V)
  | [] => []
  | .inr (.inl x) :: vs => some (vl x) :: none :: entS vs
  | .inl x :: vs => some (vi x) :: entS vs
  | .inr (.inr q) :: vs => some (.inr (.inr q)) :: entS vs
theorem entS_len (ρ : Nat → Nat) : ∀ vs : List V, (lg_sl (vs.map (toV ρ))).length = (entS vs).length
  | [] => rfl
  | .inr (.inl x) :: vs => by
    show (lg_sl (Value.long x :: vs.map (toV ρ))).length = (entS vs).length + 1 + 1
    rw [← entS_len ρ vs]
    simp [lg_sl, Value.category]
  | .inl x :: vs => by
    show (lg_sl (Value.int x :: vs.map (toV ρ))).length = (entS vs).length + 1
    rw [← entS_len ρ vs]
    simp [lg_sl, Value.category]
  | .inr (.inr q) :: vs => by
    show (lg_sl (Value.ref (ρ q.2.2) :: vs.map (toV ρ))).length = (entS vs).length + 1
    rw [← entS_len ρ vs]
    simp [lg_sl, Value.category]
theorem entS_at (ρ : Nat → Nat) : ∀ (vs : List V) (i j : Nat) (v : V), (entS vs)[j]? = some (some v) → (i + j, toV ρ v) ∈ lv_args i (vs.map (toV ρ))
  | [], i, j, v, h => by simp [entS] at h
  | .inr (.inl x) :: vs, i, j, v, h => by
    show (i + j, toV ρ v) ∈ (i, Value.long x) :: lv_args (i + 2) (vs.map (toV ρ))
    match j, h with
    | 0, h => cases h; exact List.mem_cons_self
    | 1, h => cases h
    | j + 2, h =>
      have := entS_at ρ vs (i + 2) j v h
      rw [show i + (j + 2) = i + 2 + j by omega]
      exact List.mem_cons_of_mem _ this
  | .inl x :: vs, i, j, v, h => by
    show (i + j, toV ρ v) ∈ (i, Value.int x) :: lv_args (i + 1) (vs.map (toV ρ))
    match j, h with
    | 0, h => cases h; exact List.mem_cons_self
    | j + 1, h =>
      have := entS_at ρ vs (i + 1) j v h
      rw [show i + (j + 1) = i + 1 + j by omega]
      exact List.mem_cons_of_mem _ this
  | .inr (.inr q) :: vs, i, j, v, h => by
    show (i + j, toV ρ v) ∈ (i, Value.ref (ρ q.2.2)) :: lv_args (i + 1) (vs.map (toV ρ))
    match j, h with
    | 0, h => cases h; exact List.mem_cons_self
    | j + 1, h =>
      have := entS_at ρ vs (i + 1) j v h
      rw [show i + (j + 1) = i + 1 + j by omega]
      exact List.mem_cons_of_mem _ this
theorem entS_mem : ∀ (vs : List V) (v : V), some v ∈ entS vs → v ∈ vs
  | [], v, h => by simp [entS] at h
  | .inr (.inl x) :: vs, v, h => by
    rcases List.mem_cons.mp h with q | q
    · cases q; exact List.mem_cons_self
    · rcases List.mem_cons.mp q with q | q
      · cases q
      · exact List.mem_cons_of_mem _ (entS_mem vs v q)
  | .inl x :: vs, v, h => by
    rcases List.mem_cons.mp h with q | q
    · cases q; exact List.mem_cons_self
    · exact List.mem_cons_of_mem _ (entS_mem vs v q)
  | .inr (.inr x) :: vs, v, h => by
    rcases List.mem_cons.mp h with q | q
    · cases q; exact List.mem_cons_self
    · exact List.mem_cons_of_mem _ (entS_mem vs v q)
theorem Me_of {d : Nat} {y : MethodName} {cc : ByteArray} {nL : Nat} {ret : Option FieldType} {vs : List V} {μ μ' : Mem} {r : Option V} (ls : List (Option V)) (hls : entS vs ++ List.replicate (nL - (entS vs).length) none = ls) (hle : (entS vs).length ≤ nL) (hy : plainName y.cls = true) (k : Ev d y cc nL ret 0 ls [] μ r μ') : Me d y cc nL ret vs μ r μ' := by
  intro l N sh ρ cT D hC hv
  refine Met.ofW (cc := cc) (maxL := nL) (ret := ret) hy rfl ?_
  intro p e s m args below meth c s₁ B hml hpc
  obtain ⟨rfl, hW, hA⟩ := hpc
  have hX : Cx y cc nL ret p s m _ meth c := ⟨B.exec, B.bytes, hml, B.returns, findClass_of_methodNamed B.named, fun w hw => atoms_spec (ws := .code y cc nL ret :: tb) B.pre w (List.mem_cons_of_mem _ hw), B.notSynchronized⟩
  rw [lg_entry_eq]
  have hl := lv_entry (vs.map (toV ρ)) (n := nL) (by rw [entS_len]; exact hle)
  have hlen : ls.length = nL := by
    rw [← hls, List.length_append, List.length_replicate]
    omega
  refine k l (rmd d) N sh ρ cT D (Ain N ρ) p e s m _ below meth c s.heap [] 0 0 _ ⟨Nat.le_refl _, Nat.le_refl _, Nat.le_refl _, Nat.le_refl _⟩ hC (fun a ha => ⟨a, ha, rfl⟩) hX hW hA va_S.rf ?_ (fun v hv => by cases hv) ⟨hlen, lv_mono hl ?_⟩
  · intro v hm
    rw [← hls] at hm
    rcases List.mem_append.mp hm with q | q
    · exact hv v (entS_mem vs v q)
    · cases List.eq_of_mem_replicate q
  · intro q hq
    obtain ⟨v, h1, h2⟩ := mem_lvl.mp hq
    rw [← hls] at h1
    by_cases hj : q.1 < (entS vs).length
    · rw [List.getElem?_append_left hj] at h1
      have := entS_at ρ vs 0 q.1 v h1
      rw [Nat.zero_add, ← h2] at this
      exact this
    · rw [List.getElem?_append_right (by omega)] at h1
      cases List.eq_of_mem_replicate (List.mem_of_getElem? h1)
def catV : V → Nat
  | .inr (.inl _) => 2
  | _ => 1
theorem cat_toV (ρ : Nat → Nat) : ∀ v : V, (toV ρ v).category = catV v
  | .inl _ => rfl
  | .inr (.inl _) => rfl
  | .inr (.inr _) => rfl
theorem cat_sum (ρ : Nat → Nat) (st : List V) : ((st.map (toV ρ)).map fun v => v.category).sum = (st.map catV).sum := by
  rw [List.map_map]
  congr 1
  apply List.map_congr_left
  intro v _
  exact cat_toV ρ v
section CallGo
variable {p : Program} {l : Launch} {e : Env} {R : Room} {s : State} {m : MethodId} {args : Array Value} {below : List Frame} {meth : Method} {c : Code} {H : Heap} {locs : List Loc} {cells slots : Nat} {Q : State → Prop}
theorem call_go {A : Nat → Prop} {N : Nat} {sh : Nat → Nat × Nat} {ρ : Nat → Nat} {cT : Nat → ClassId} {D : va_G} {μ1 : Mem} {r1 : Option V} {pc : Nat} {al : Array Slot} {st0 rest : List Value} {a : Array Value}
    (hr : va_Run p l e R s m args below meth c H locs cells slots 0 0 (F0 m pc al st0) rest (QC N sh ρ cT D (Ain N ρ) r1 μ1 a) (Ain N ρ)) (hB : AB N ρ A) (hS : va_S A s.heap H locs)
    (kk : ∀ (H1 : Heap) (locs1 : List Loc), Wl N sh ρ cT D A μ1 s H1 → va_S A s.heap H1 locs1 → (∀ v, r1 = some v → VOK N sh v) → W p l e R s m args below meth c H1 locs1 cells slots Q (F0 m (pc + 3) al ((r1.map (toV ρ)).toList ++ rest))) : W p l e R s m args below meth c H locs cells slots Q (F0 m pc al st0) := by
  intro T hT X
  obtain ⟨v, st₀, t, T', L, h0, X', hL, e1, e2, ⟨hv, hWt, ⟨hz, hk⟩, hvok⟩, st⟩ := hr T hT X
  have hv : v = r1.map (toV ρ) := by cases hv; rfl
  subst hv
  rw [h0] at hz hk
  have hvm : s.vm.Alike t.vm := by rw [← e2]; exact X'.warmed.alike
  have hin : ∀ q, Ain N ρ q → A q := fun q ⟨a, ha, e⟩ => by rw [e]; exact hB a ha
  obtain ⟨t2, a1, b1⟩ := kk T'.heap (locs ++ L) ⟨by rw [e1]; exact hWt.1, va_K.moved hvm.symm hWt.2.1, hWt.2.2.1.weaken (fun _ q _ h => hin q.1 h), hWt.2.2.2⟩
    ⟨Nat.le_trans hS.1 (by rw [e1]; exact hz), fun q h1 h2 => by rw [e1, hk q (Nat.lt_of_lt_of_le h1 hS.1) (fun z => h2 (hin q z))]; exact hS.2.1 q h1 h2, fun q hq => by
      rcases List.mem_append.mp hq with h | h
      · exact hS.2.2 q h
      · exact hin _ (hL q h)⟩ hvok T' rfl X'
  exact ⟨t2, st t2 a1, b1⟩
end CallGo
theorem Pre_blind {N : Nat} {sh : Nat → Nat × Nat} {ρ : Nat → Nat} {cT : Nat → ClassId} {D : va_G} {μ : Mem} {vs : List Value} : FrameBlind (va_Pc vs (Pre N sh ρ cT D μ)) := by
  intro a U g mk h
  obtain ⟨h1, h2, h3⟩ := h
  exact ⟨h1, ⟨h2.1, va_K.moved (u := U) (U := U.calling g mk a) (Vm.Alike.refl U.vm) h2.2.1, h2.2.2⟩, Amb.same (s := U) (U := U.calling g mk a) rfl h3⟩
theorem Pre_at {A : Nat → Prop} {N : Nat} {sh : Nat → Nat × Nat} {ρ : Nat → Nat} {cT : Nat → ClassId} {D : va_G} {μ : Mem} {s U : State} {H : Heap} {locs : List Loc} (hB : AB N ρ A) (hW : Wl N sh ρ cT D A μ s H) (hA : Amb A ρ s s.heap) (hS : va_S A s.heap H locs) (hU : U.heap = H) (hw : s.WarmedH U.vm) : Pre N sh ρ cT D μ U := by
  have hin : ∀ q, Ain N ρ q → A q := fun q ⟨a, ha, e⟩ => by rw [e]; exact hB a ha
  refine ⟨⟨by rw [hU]; exact hW.1, va_K.moved hw.alike hW.2.1, ⟨hW.2.2.1.1, fun k q hk => ?_⟩, hW.2.2.2⟩, ?_⟩
  · have hkN : k < N := by
      have := (List.getElem?_eq_some_iff.mp hk).1
      unfold wl at this
      rw [List.length_map, List.length_range] at this
      exact this
    rw [wl_get hkN] at hk
    cases hk
    exact ⟨k, hkN, rfl⟩
  · rw [hU]
    exact ((hA.kept hS.2.1).narrow hin).warm hw
/-- the words of a call of an object's method -/
def VL (own : String) (idx t : Nat) (y : MethodName) (cc : ByteArray) (nL : Nat) (ret : Option FieldType) (n : Nat) : Prop :=
  (∃ (T : u_T) (k : Nat), CL[t]? = some (y.cls, T, k)) ∧ t < 11 ∧ Cond.methodLink own idx y ∈ tb ∧ Cond.instanceMethod y ∈ tb ∧ Cond.selects y.cls y y ∈ tb ∧ Cond.initialized y.cls ∈ tb ∧ Cond.code y cc nL ret ∈ tb ∧
  (y.cls ≠ "java/lang/invoke/MethodHandle" ∧ y.cls ≠ "java/lang/invoke/VarHandle" ∧ (parseMethodDescriptor y.desc).map (fun d => d.parameters.length) = some n) ∧ nL ≤ 21
/-- of a call of a method without an object -/
def SL (own : String) (idx : Nat) (y : MethodName) (cc : ByteArray) (nL : Nat) (ret : Option FieldType) (n : Nat) : Prop :=
  Cond.methodLink own idx y ∈ tb ∧ Cond.static y ∈ tb ∧ Cond.initialized y.cls ∈ tb ∧ Cond.code y cc nL ret ∈ tb ∧
  (y.cls ≠ "java/lang/invoke/MethodHandle" ∧ y.cls ≠ "java/lang/invoke/VarHandle" ∧ (parseMethodDescriptor y.desc).map (fun d => d.parameters.length) = some n) ∧ nL ≤ 21
/-- of a nest mate's -/
def NL (y : MethodName) (cc : ByteArray) (nL : Nat) (ret : Option FieldType) (n : Nat) : Prop :=
  Cond.static y ∈ tb ∧ Cond.initialized y.cls ∈ tb ∧ Cond.code y cc nL ret ∈ tb ∧
  (y.cls ≠ "java/lang/invoke/MethodHandle" ∧ y.cls ≠ "java/lang/invoke/VarHandle" ∧ (parseMethodDescriptor y.desc).map (fun d => d.parameters.length) = some n) ∧ nL ≤ 21
theorem tb_in {y : MethodName} {cc : ByteArray} {nL : Nat} {ret : Option FieldType} (h : Cond.code y cc nL ret ∈ tb) : GoodIn tb (.code y cc nL ret :: tb) := fun w hw => by
  rcases List.mem_cons.mp hw with rfl | q
  · exact ⟨h, tb_good h⟩
  · exact ⟨q, tb_good q⟩
section CallRows
variable {d : Nat} {y : MethodName} {cc : ByteArray} {nL : Nat} {ret : Option FieldType} {pc : Nat} {ls : List (Option V)} {st : List V} {μ μ' : Mem} {r : Option V}
theorem SV.app {N : Nat} {sh : Nat → Nat × Nat} {r1 : Option V} {st : List V} (h : ∀ v, r1 = some v → VOK N sh v) (k : SV N sh st) : SV N sh (r1.toList ++ st) := by
  cases r1 with
  | none => exact k
  | some v => exact SV.cons (h v rfl) k
theorem map_app (ρ : Nat → Nat) (r1 : Option V) (st : List V) : (r1.toList ++ st).map (toV ρ) = (r1.map (toV ρ)).toList ++ st.map (toV ρ) := by
  cases r1 <;> rfl
theorem Ev_callV {y2 : MethodName} {cc2 : ByteArray} {nL2 : Nat} {ret2 : Option FieldType} {idx t n a : Nat} {stk : List V} {r1 : Option V} {μ1 : Mem} (vs : List V) {k : Nat} (hw : VL y.cls idx t y2 cc2 nL2 ret2 k) (hn : vs.length = k) (hs : stk = vs.reverse ++ vr t n a :: st) (hroom : (st.map catV).sum ≤ 8) (hd : decode cc pc = .ok (.invokevirtual idx, 3)) (hM : Me d y2 cc2 nL2 ret2 (vr t n a :: vs) μ r1 μ1) (kk : Ev (d + 1) y cc nL ret (pc + 3) ls (r1.toList ++ st) μ1 r μ') : Ev (d + 1) y cc nL ret pc ls stk μ r μ' := by
  intro l R N sh ρ cT D A p e s m args below meth c H locs cells slots al hR hC hB hX hW hA hS hls hst hL
  obtain ⟨⟨T, kt, w0⟩, w1, w2, w3, w4, w5, w6, w7, w8⟩ := hw
  subst hs
  have hvs : ∀ v ∈ vr t n a :: vs, VOK N sh v := fun v hv => hst v (by
    rcases List.mem_cons.mp hv with rfl | q
    · exact List.mem_append.mpr (Or.inr List.mem_cons_self)
    · exact List.mem_append.mpr (Or.inl (List.mem_reverse.mpr q)))
  have hst2 : SV N sh st := fun v hv => hst v (List.mem_append.mpr (Or.inr (List.mem_cons_of_mem _ hv)))
  obtain ⟨ha, hs⟩ : a < N ∧ sh a = (t, n) := VOK_lt (by omega) (hvs _ List.mem_cons_self)
  have hM := hM l N sh ρ cT D hC hvs
  have hG : GoodIn tb (wsV y.cls idx y2.cls y2 (.code y2 cc2 nL2 ret2 :: tb)) := by
    intro w hw
    rcases List.mem_append.mp hw with q | q
    · simp only [List.mem_cons, List.not_mem_nil, or_false] at q
      rcases q with rfl | rfl | rfl | rfl
      · exact ⟨w2, tb_good w2⟩
      · exact ⟨w3, tb_good w3⟩
      · exact ⟨w4, tb_good w4⟩
      · exact ⟨w5, tb_good w5⟩
    · exact tb_in w6 w q
  have hrun := va_runV (l := l) (e := e) (below := below) (meth := meth) (locs := locs) (cells := cells) (slots := slots) (g := F0 m pc al ((vs.reverse ++ vr t n a :: st).map (toV ρ))) (As := vs.map (toV ρ)) (rest := st.map (toV ρ)) (R := R) (H := H) (b := ρ a) (n := k) ⟨hX.1, hX.2.1, hX.2.2.1, hX.2.2.2.2.1, hX.2.2.2.2.2.1⟩ hM
    (cwV k hX.2.2.2.2.2.1 hG rfl rfl rfl ⟨rfl, w7⟩ ⟨hR.1, by have := hR.2.1; show 8 + (nL2 + 11) + 40 * (d + 1) ≤ R.locals; omega⟩)
    ⟨Pre_blind, va_recv hW.2.1 hW.1 w0 (by rw [wl_get ha, cell_obj hs w1]), fun U hU hw => ⟨rfl, Pre_at hB hW hA hS hU hw⟩⟩ rfl (by rw [List.length_map]; exact hn) hL.2.1 (by rw [List.map_append, List.map_reverse]; rfl) (lv_room (by rw [cat_sum]; exact hroom)) hd ⟨hR.2.2.1, hR.2.2.2⟩
  refine call_go hrun hB hS (fun H1 locs1 hW1 hS1 hv1 => ?_)
  have := kk l R N sh ρ cT D A p e s m args below meth c H1 locs1 cells slots al hR hC hB hX hW1 hA hS1 hls (SV.app hv1 hst2) hL
  rw [map_app] at this
  exact this
theorem Ev_callS {y2 : MethodName} {cc2 : ByteArray} {nL2 : Nat} {ret2 : Option FieldType} {idx : Nat} {stk : List V} {r1 : Option V} {μ1 : Mem} (vs : List V) {k : Nat} (hw : SL y.cls idx y2 cc2 nL2 ret2 k) (hn : vs.length = k) (hs : stk = vs.reverse ++ st) (hroom : (st.map catV).sum ≤ 8) (hd : decode cc pc = .ok (.invokestatic idx, 3)) (hM : Me d y2 cc2 nL2 ret2 vs μ r1 μ1) (kk : Ev (d + 1) y cc nL ret (pc + 3) ls (r1.toList ++ st) μ1 r μ') : Ev (d + 1) y cc nL ret pc ls stk μ r μ' := by
  intro l R N sh ρ cT D A p e s m args below meth c H locs cells slots al hR hC hB hX hW hA hS hls hst hL
  obtain ⟨w2, w4, w5, w6, w7, w8⟩ := hw
  subst hs
  have hvs : ∀ v ∈ vs, VOK N sh v := fun v hv => hst v (List.mem_append.mpr (Or.inl (List.mem_reverse.mpr hv)))
  have hst2 : SV N sh st := fun v hv => hst v (List.mem_append.mpr (Or.inr hv))
  have hM := hM l N sh ρ cT D hC hvs
  have hG : GoodIn tb (va_wsS y.cls idx y2 (.code y2 cc2 nL2 ret2 :: tb)) := by
    intro w hw
    rcases List.mem_append.mp hw with q | q
    · simp only [List.mem_cons, List.not_mem_nil, or_false] at q
      rcases q with rfl | rfl | rfl
      · exact ⟨w2, tb_good w2⟩
      · exact ⟨w4, tb_good w4⟩
      · exact ⟨w5, tb_good w5⟩
    · exact tb_in w6 w q
  have hrun := va_runS (l := l) (e := e) (below := below) (meth := meth) (locs := locs) (cells := cells) (slots := slots) (g := F0 m pc al ((vs.reverse ++ st).map (toV ρ))) (As := vs.map (toV ρ)) (rest := st.map (toV ρ)) (R := R) (H := H) (n := k) ⟨hX.1, hX.2.1, hX.2.2.1, hX.2.2.2.2.1, hX.2.2.2.2.2.1⟩ hM
    (va_cwS k hX.2.2.2.2.2.1 hG rfl rfl rfl w7 ⟨hR.1, by have := hR.2.1; show 8 + (nL2 + 11) + 40 * (d + 1) ≤ R.locals; omega⟩)
    ⟨Pre_blind, fun U hU hw => ⟨rfl, Pre_at hB hW hA hS hU hw⟩⟩ rfl (by rw [List.length_map]; exact hn) hL.2.1 (by rw [List.map_append, List.map_reverse]) (lv_room (by rw [cat_sum]; exact hroom)) hd ⟨hR.2.2.1, hR.2.2.2⟩
  refine call_go hrun hB hS (fun H1 locs1 hW1 hS1 hv1 => ?_)
  have := kk l R N sh ρ cT D A p e s m args below meth c H1 locs1 cells slots al hR hC hB hX hW1 hA hS1 hls (SV.app hv1 hst2) hL
  rw [map_app] at this
  exact this
theorem Ev_callN {cc2 : ByteArray} {nL2 : Nat} {ret2 : Option FieldType} {stk : List V} {r1 : Option V} {μ1 : Mem} (vs : List V) {k : Nat} (hw : NL yX9_isSize cc2 nL2 ret2 k) (hy : y.cls = RX0) (hn : vs.length = k) (hs : stk = vs.reverse ++ st) (hroom : (st.map catV).sum ≤ 8) (hd : decode cc pc = .ok (.invokestatic 34, 3)) (hM : Me d yX9_isSize cc2 nL2 ret2 vs μ r1 μ1) (kk : Ev (d + 1) y cc nL ret (pc + 3) ls (r1.toList ++ st) μ1 r μ') : Ev (d + 1) y cc nL ret pc ls stk μ r μ' := by
  intro l R N sh ρ cT D A p e s m args below meth c H locs cells slots al hR hC hB hX hW hA hS hls hst hL
  obtain ⟨w4, w5, w6, w7, w8⟩ := hw
  subst hs
  have hvs : ∀ v ∈ vs, VOK N sh v := fun v hv => hst v (List.mem_append.mpr (Or.inl (List.mem_reverse.mpr hv)))
  have hst2 : SV N sh st := fun v hv => hst v (List.mem_append.mpr (Or.inr hv))
  have hM := hM l N sh ρ cT D hC hvs
  have hown : s.vm.findClass RX0 = some m.cls := by rw [← hy]; exact hX.2.2.2.2.1
  have hnw : va_Nw (.methodLinkNest RX0 34 yX9_isSize RX9) s := hA.2.2.2.2.1
  have hrun := va_runSN (l := l) (e := e) (below := below) (meth := meth) (locs := locs) (cells := cells) (slots := slots) (g := F0 m pc al ((vs.reverse ++ st).map (toV ρ))) (As := vs.map (toV ρ)) (rest := st.map (toV ρ)) (R := R) (H := H) (n := k) ⟨hX.1, hX.2.1, hX.2.2.1, hown, hX.2.2.2.2.2.1⟩ hM
    ⟨va_cnB k hX.2.2.2.2.2.1 (tb_in w6) rfl rfl rfl hnw (hX.2.2.2.2.2.1 _ w5) w7 ⟨hR.1, by have := hR.2.1; show 8 + (nL2 + 11) + 40 * (d + 1) ≤ R.locals; omega⟩, hX.2.2.2.2.2.1 _ w4, trivial⟩
    ⟨Pre_blind, fun U hU hw => ⟨rfl, Pre_at hB hW hA hS hU hw⟩⟩ rfl (by rw [List.length_map]; exact hn) hL.2.1 (by rw [List.map_append, List.map_reverse]) (lv_room (by rw [cat_sum]; exact hroom)) hd ⟨hR.2.2.1, hR.2.2.2⟩
  refine call_go hrun hB hS (fun H1 locs1 hW1 hS1 hv1 => ?_)
  have := kk l R N sh ρ cT D A p e s m args below meth c H1 locs1 cells slots al hR hC hB hX hW1 hA hS1 hls (SV.app hv1 hst2) hL
  rw [map_app] at this
  exact this
/-- System.arraycopy of numbers -/
theorem Ev_copy {idx t n0 n1 a0 a : Nat} {sp dp n : Int32} (hl : Cond.methodLink y.cls idx arraycopyName ∈ tb) (hnat : Cond.native arraycopyName ∈ tb) (hst0 : Cond.static arraycopyName ∈ tb) (hini : Cond.initialized "java/lang/System" ∈ tb) (h1 : ¬ sp < 0) (h2 : ¬ dp < 0) (h3 : ¬ n < 0) (h4 : sp.toNatClampNeg + n.toNatClampNeg ≤ n0) (h5 : dp.toNatClampNeg + n.toNatClampNeg ≤ n1) (hroom : (st.map catV).sum ≤ 8) (hd : decode cc pc = .ok (.invokestatic idx, 3))
    (kk : Ev d y cc nL ret (pc + 3) ls st (sA μ a (va_cpy (μ.1 a0) (μ.1 a) sp.toNatClampNeg dp.toNatClampNeg n.toNatClampNeg)) r μ') : Ev d y cc nL ret pc ls (vi n :: vi dp :: vr 11 n1 a :: vi sp :: vr 11 n0 a0 :: st) μ r μ' := by
  intro l R N sh ρ cT D A p e s m args below meth c H locs cells slots al hR hC hB hX hW hA hS hls hst hL
  obtain ⟨ha, hs⟩ : a < N ∧ sh a = (11, n1) := VOK_lt (by decide) hst.tl.tl.hd
  obtain ⟨ha0, hs0⟩ : a0 < N ∧ sh a0 = (11, n0) := VOK_lt (by decide) hst.tl.tl.tl.tl.hd
  refine va_copyi hX.1 hX.2.1 (hX.2.2.1.trans hL.2.1.symm) hX.2.2.2.2.1 (hX.2.2.2.2.2.1 _ hl) (hX.2.2.2.2.2.1 _ hnat) (hX.2.2.2.2.2.1 _ hst0) (hX.2.2.2.2.2.1 _ hini) hW.2.1 hW.1 hW.2.2.1 hS a0 a 0 0 (by rw [wl_get ha0, cell_arr hs0 (by decide), arrC_I (by decide) (by decide)]) (by rw [wl_get ha, cell_arr hs (by decide), arrC_I (by decide) (by decide)]) rfl rfl rfl h1 h2 h3 h4 h5 (fun i _ => rfl) (Nat.le_trans (Nat.succ_le_succ (Nat.zero_le _)) hR.1) ?_ hd (fun H1 locs1 hP hD hS1 => ?_)
  · rw [cat_sum]
    have : nativeFrameWords "java/lang/System" "arraycopy" 5 + 11 ≤ 32 := by decide
    have := hR.2.1
    omega
  have hws : (wl N sh ρ cT μ).set a (ρ a, .inl (cT 11, n1, .inl (va_cpy (μ.1 a0) (μ.1 a) sp.toNatClampNeg dp.toNatClampNeg n.toNatClampNeg))) = wl N sh ρ cT (sA μ a (va_cpy (μ.1 a0) (μ.1 a) sp.toNatClampNeg dp.toNatClampNeg n.toNatClampNeg)) := by
    refine wl_set ?_ (fun j hj => ⟨up_ne hj, rfl, rfl⟩)
    rw [cell_arr hs (by decide), arrC_I (by decide) (by decide)]
    show Sum.inl (cT 11, n1, Sum.inl ((va_up μ.1 a _) a)) = _
    rw [up_same]
  rw [hws] at hP hD
  exact kk l R N sh ρ cT D A p e s m args below meth c H1 locs1 cells slots al hR hC hB hX ⟨hP, hW.2.1, hD, hW.2.2.2⟩ hA hS1 hls hst.tl.tl.tl.tl.tl hL
end CallRows
