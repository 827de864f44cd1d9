/-! ===== small helps for the walks ===== -/
def okp (ls : List (Option V)) : Nat → Bool
  | 0 => true
  | j + 1 => match ls.getD j none with
    | some (.inr (.inl _)) => false
    | _ => true
theorem okp_of {ls : List (Option V)} {j : Nat} (h : okp ls j = true) : ∀ x, j ≠ 0 → ls.getD (j - 1) none ≠ some (vl x) := by
  intro x hj e
  match j, h with
  | 0, _ => exact hj rfl
  | j + 1, h =>
    have e : ls.getD j none = some (vl x) := e
    simp only [okp] at h
    rw [e] at h
    cases h
def lsle : List (Option V) → List (Option V) → Prop
  | [], [] => True
  | none :: a, _ :: b => True ∧ lsle a b
  | some v :: a, w :: b => w = some v ∧ lsle a b
  | _, _ => False
theorem lsle_at : ∀ {a b : List (Option V)}, lsle a b → a.length = b.length ∧ ∀ (i : Nat) (v : V), a[i]? = some (some v) → b[i]? = some (some v)
  | [], [], _ => ⟨rfl, fun i v h => by simp at h⟩
  | none :: a, _ :: b, h => by
    obtain ⟨h1, h2⟩ := lsle_at h.2
    refine ⟨congrArg Nat.succ h1, fun i v hi => ?_⟩
    match i, hi with
    | 0, hi => cases hi
    | i + 1, hi => exact h2 i v hi
  | some w :: a, z :: b, h => by
    obtain ⟨h1, h2⟩ := lsle_at h.2
    refine ⟨congrArg Nat.succ h1, fun i v hi => ?_⟩
    match i, hi with
    | 0, hi => cases hi; exact congrArg some h.1
    | i + 1, hi => exact h2 i v hi
  | [], _ :: _, h => by cases h
  | none :: _, [], h => by cases h
  | some _ :: _, [], h => by cases h
theorem Ev_weak {d : Nat} {y : MethodName} {cc : ByteArray} {nL : Nat} {ret : Option FieldType} {pc : Nat} {ls ls' : List (Option V)} {st : List V} {μ μ' : Mem} {r : Option V} (hw : lsle ls' ls) (h : Ev d y cc nL ret pc ls' st μ r μ') : Ev d y cc nL ret pc ls st μ r μ' := by
  intro l R N sh ρ cT D A p e s m args below meth c H locs cells slots al hR hC hB hX hW hA hS hls hst hL
  obtain ⟨h1, h2⟩ := lsle_at hw
  refine h l R N sh ρ cT D A p e s m args below meth c H locs cells slots al hR hC hB hX hW hA hS ?_ hst ⟨h1.trans hL.1, lv_mono hL.2 ?_⟩
  · intro v hv
    obtain ⟨i, hi⟩ := List.getElem?_of_mem hv
    exact hls v (List.mem_of_getElem? (h2 i v hi))
  · intro q hq
    obtain ⟨v, g1, g2⟩ := mem_lvl.mp hq
    exact mem_lvl.mpr ⟨v, h2 _ _ g1, g2⟩
def isB (x : Int32) : Prop := x = 0 ∨ x = 1
theorem isB_nar {x : Int32} (h : isB x) : narrow .boolean (.int x) = .int x := by
  rcases h with rfl | rfl <;> rfl
theorem Ev_tab {d : Nat} {y : MethodName} {cc : ByteArray} {nL : Nat} {ret : Option FieldType} {pc : Nat} {ls : List (Option V)} {st : List V} {μ μ' : Mem} {r : Option V} {dflt lo hi : Int} {offs : Array Int} {len : Nat} {x : Int32} (tgt0 : Nat) (hd : decode cc pc = .ok (.tableswitch dflt lo hi offs, len)) (ht0 : (pc : Int) + dflt = (tgt0 : Int))
    (hin : ∀ k : Nat, (k : Int) ≤ hi - lo → x.toInt = lo + (k : Int) → ∃ (off : Int) (tgt : Nat), offs[k]? = some off ∧ (pc : Int) + off = (tgt : Int) ∧ Ev d y cc nL ret tgt ls st μ r μ') (hout : (x.toInt < lo ∨ hi < x.toInt) → Ev d y cc nL ret tgt0 ls st μ r μ') : Ev d y cc nL ret pc ls (vi x :: st) μ r μ' := by
  by_cases q : x.toInt < lo ∨ hi < x.toInt
  · exact Ev_tabOut tgt0 hd q ht0 (hout q)
  · have q1 : ¬ x.toInt < lo := fun z => q (Or.inl z)
    have q2 : ¬ hi < x.toInt := fun z => q (Or.inr z)
    obtain ⟨off, tgt, h1, h2, h3⟩ := hin (x.toInt - lo).toNat (by omega) (by omega)
    exact Ev_tabIn tgt hd q1 q2 h1 h2 h3
section Rets
variable {d : Nat} {y : MethodName} {cc : ByteArray} {nL : Nat} {ret : Option FieldType} {pc : Nat} {ls : List (Option V)} {μ : Mem}
theorem R_i {x : Int32} {ty : FieldType} (hr : ret = some ty) (hd : decode cc pc = .ok (.ireturn, 1)) (hn : narrow ty (.int x) = .int x) : Ev d y cc nL ret pc ls [vi x] μ (some (vi x)) μ := Ev_iret (st := []) (r := none) (μ' := μ) hr hd hn
theorem R_l {x : Int64} (hr : ret = some .long) (hd : decode cc pc = .ok (.lreturn, 1)) : Ev d y cc nL ret pc ls [vl x] μ (some (vl x)) μ := Ev_lret (st := []) (r := none) (μ' := μ) hr hd
theorem R_v (hr : ret = none) (hd : decode cc pc = .ok (.return_, 1)) : Ev d y cc nL ret pc ls [] μ none μ := Ev_vret (st := []) (r := none) (μ' := μ) hr hd
theorem R_a {t n a : Nat} {C : String} (hr : ret = some (.object C)) (hd : decode cc pc = .ok (.areturn, 1)) : Ev d y cc nL ret pc ls [vr t n a] μ (some (vr t n a)) μ := Ev_aret (st := []) (r := none) (μ' := μ) hr hd
end Rets
theorem Ev_look2 {d : Nat} {y : MethodName} {cc : ByteArray} {nL : Nat} {ret : Option FieldType} {pc : Nat} {ls : List (Option V)} {st : List V} {μ μ' : Mem} {r : Option V} {dflt o1 o2 : Int} {len : Nat} {x : Int32} (t1 t2 t0 : Nat) (hd : decode cc pc = .ok (.lookupswitch dflt #[(0, o1), (1, o2)], len)) (h1 : (pc : Int) + o1 = (t1 : Int)) (h2 : (pc : Int) + o2 = (t2 : Int)) (h0 : (pc : Int) + dflt = (t0 : Int)) (hp : ((#[((0 : Int), o1), (1, o2)] : Array (Int × Int)).toList.zip ((#[((0 : Int), o1), (1, o2)] : Array (Int × Int)).toList.drop 1)).all (fun (a, next) => a.1 < next.1) = true)
    (k1 : x = 0 → Ev d y cc nL ret t1 ls st μ r μ') (k2 : x = 1 → Ev d y cc nL ret t2 ls st μ r μ') (k0 : x ≠ 0 ∧ x ≠ 1 → Ev d y cc nL ret t0 ls st μ r μ') : Ev d y cc nL ret pc ls (vi x :: st) μ r μ' := by
  intro l R N sh ρ cT D A p e s m args below meth c H locs cells slots al hR hC hB hX hW hA hS hls hst hL
  by_cases q1 : x = 0
  · subst q1
    exact lv_lookup hX.1 hX.2.1 hd hp (by rw [Op.lookupswitch.offset_cons, if_pos (by decide)]) h1 (k1 rfl l R N sh ρ cT D A p e s m args below meth c H locs cells slots al hR hC hB hX hW hA hS hls hst.tl hL)
  · by_cases q2 : x = 1
    · subst q2
      exact lv_lookup hX.1 hX.2.1 hd hp (by rw [Op.lookupswitch.offset_cons, if_neg (by decide), Op.lookupswitch.offset_cons, if_pos (by decide)]) h2 (k2 rfl l R N sh ρ cT D A p e s m args below meth c H locs cells slots al hR hC hB hX hW hA hS hls hst.tl hL)
    · exact lv_lookup hX.1 hX.2.1 hd hp (by rw [lv_osw (k := 0) q1 (by decide), lv_osw (k := 1) q2 (by decide), Op.lookupswitch.offset_nil]) h0 (k0 ⟨q1, q2⟩ l R N sh ρ cT D A p e s m args below meth c H locs cells slots al hR hC hB hX hW hA hS hls hst.tl hL)
def mx (x z : Int32) : Int32 := if x < z then z else x
def mn (x z : Int32) : Int32 := if z < x then z else x
def ab (x : Int32) : Int32 := if 0 ≤ x then x else 0 - x
section Maths
variable {d : Nat} {y : MethodName} {cc : ByteArray} {nL : Nat} {ret : Option FieldType} {pc : Nat} {ls : List (Option V)} {st : List V} {μ μ' : Mem} {r : Option V}
theorem Ev_mmax {idx : Nat} {x z : Int32} (hl : Cond.methodLink y.cls idx Lib.Math.max.name ∈ tb) (hs : Cond.static Lib.Math.max.name ∈ tb) (hi : Cond.initialized "java/lang/Math" ∈ tb) (hc : Cond.code Lib.Math.max.name Lib.Math.max.code 2 (some .int) ∈ tb) (hroom : (st.map catV).sum ≤ 8) (hd : decode cc pc = .ok (.invokestatic idx, 3)) (k : Ev d y cc nL ret (pc + 3) ls (vi (mx x z) :: st) μ r μ') : Ev d y cc nL ret pc ls (vi z :: vi x :: st) μ r μ' := by
  intro l R N sh ρ cT D A p e s m args below meth c H locs cells slots al hR hC hB hX hW hA hS hls hst hL
  exact va_mmax hX.1 hX.2.1 (hX.2.2.1.trans hL.2.1.symm) hX.2.2.2.2.1 (hX.2.2.2.2.2.1 _ hl) (hX.2.2.2.2.2.1 _ hs) (hX.2.2.2.2.2.1 _ hi) (hX.2.2.2.2.2.1 _ hc) (Nat.le_trans (Nat.succ_le_succ (Nat.zero_le _)) hR.1) (by rw [cat_sum]; have := hR.2.1; omega) hR.2.2.1 hR.2.2.2 hd (k l R N sh ρ cT D A p e s m args below meth c H locs cells slots al hR hC hB hX hW hA hS hls (SV.cons trivial hst.tl.tl) hL)
theorem Ev_mmin {idx : Nat} {x z : Int32} (hl : Cond.methodLink y.cls idx Lib.Math.min.name ∈ tb) (hs : Cond.static Lib.Math.min.name ∈ tb) (hi : Cond.initialized "java/lang/Math" ∈ tb) (hc : Cond.code Lib.Math.min.name Lib.Math.min.code 2 (some .int) ∈ tb) (hroom : (st.map catV).sum ≤ 8) (hd : decode cc pc = .ok (.invokestatic idx, 3)) (k : Ev d y cc nL ret (pc + 3) ls (vi (mn x z) :: st) μ r μ') : Ev d y cc nL ret pc ls (vi z :: vi x :: st) μ r μ' := by
  intro l R N sh ρ cT D A p e s m args below meth c H locs cells slots al hR hC hB hX hW hA hS hls hst hL
  exact va_mmin hX.1 hX.2.1 (hX.2.2.1.trans hL.2.1.symm) hX.2.2.2.2.1 (hX.2.2.2.2.2.1 _ hl) (hX.2.2.2.2.2.1 _ hs) (hX.2.2.2.2.2.1 _ hi) (hX.2.2.2.2.2.1 _ hc) (Nat.le_trans (Nat.succ_le_succ (Nat.zero_le _)) hR.1) (by rw [cat_sum]; have := hR.2.1; omega) hR.2.2.1 hR.2.2.2 hd (k l R N sh ρ cT D A p e s m args below meth c H locs cells slots al hR hC hB hX hW hA hS hls (SV.cons trivial hst.tl.tl) hL)
theorem Ev_mabs {idx : Nat} {x : Int32} (hl : Cond.methodLink y.cls idx Lib.Math.abs.name ∈ tb) (hs : Cond.static Lib.Math.abs.name ∈ tb) (hi : Cond.initialized "java/lang/Math" ∈ tb) (hc : Cond.code Lib.Math.abs.name Lib.Math.abs.code 1 (some .int) ∈ tb) (hroom : (st.map catV).sum ≤ 8) (hd : decode cc pc = .ok (.invokestatic idx, 3)) (k : Ev d y cc nL ret (pc + 3) ls (vi (ab x) :: st) μ r μ') : Ev d y cc nL ret pc ls (vi x :: st) μ r μ' := by
  intro l R N sh ρ cT D A p e s m args below meth c H locs cells slots al hR hC hB hX hW hA hS hls hst hL
  exact va_mabs hX.1 hX.2.1 (hX.2.2.1.trans hL.2.1.symm) hX.2.2.2.2.1 (hX.2.2.2.2.2.1 _ hl) (hX.2.2.2.2.2.1 _ hs) (hX.2.2.2.2.2.1 _ hi) (hX.2.2.2.2.2.1 _ hc) (Nat.le_trans (Nat.succ_le_succ (Nat.zero_le _)) hR.1) (by rw [cat_sum]; have := hR.2.1; omega) hR.2.2.1 hR.2.2.2 hd (k l R N sh ρ cT D A p e s m args below meth c H locs cells slots al hR hC hB hX hW hA hS hls (SV.cons trivial hst.tl) hL)
end Maths
theorem vp_lit {i : Int32} {n : Nat} (h : decide (i < 0 ∨ n ≤ i.toNatClampNeg) = false) : vp_in i n := of_decide_eq_false h
