/-! ===== small helps for the walks ===== -/
def okp (ls : List (Option V)) : Nat → Bool
  | 0 => true
  | j + 1 => match ls.getD j none with
    | some (.inr (.inl _)) => false
    | _ => true
theorem okp_of {ls : List (Option V)} {j : Nat} (h : okp ls j = true) : ∀ x, j ≠ 0 → ls.getD (j - 1) none ≠ some (vl x) := by
  intro x hj e
  match j, h with
  | 0, _ => exact hj rfl
  | j + 1, h =>
    have e : ls.getD j none = some (vl x) := e
    simp only [okp] at h
    rw [e] at h
    cases h
def lsle : List (Option V) → List (Option V) → Prop
  | [], [] => True
  | none :: a, _ :: b => True ∧ lsle a b
  | some v :: a, w :: b => w = some v ∧ lsle a b
  | _, _ => False
theorem lsle_at : ∀ {a b : List (Option V)}, lsle a b → a.length = b.length ∧ ∀ (i : Nat) (v : V), a[i]? = some (some v) → b[i]? = some (some v)
  | [], [], _ => ⟨rfl, fun i v h => by simp at h⟩
  | none :: a, _ :: b, h => by
    obtain ⟨h1, h2⟩ := lsle_at h.2
    refine ⟨congrArg Nat.succ h1, fun i v hi => ?_⟩
    match i, hi with
    | 0, hi => cases hi
    | i + 1, hi => exact h2 i v hi
  | some w :: a, z :: b, h => by
    obtain ⟨h1, h2⟩ := lsle_at h.2
    refine ⟨congrArg Nat.succ h1, fun i v hi => ?_⟩
    match i, hi with
    | 0, hi => cases hi; exact congrArg some h.1
    | i + 1, hi => exact h2 i v hi
  | [], _ :: _, h => by cases h
  | none :: _, [], h => by cases h
  | some _ :: _, [], h => by cases h
theorem Ev_weak {d : Nat} {y : MethodName} {cc : ByteArray} {nL : Nat} {ret : Option FieldType} {pc : Nat} {ls ls' : List (Option V)} {st : List V} {μ μ' : Mem} {r : Option V} (hw : lsle ls' ls) (h : Ev d y cc nL ret pc ls' st μ r μ') : Ev d y cc nL ret pc ls st μ r μ' := by
  intro l N sh ρ cT D p e s m args below meth c H locs al hC hX hW hA hS hls hst hL
  obtain ⟨h1, h2⟩ := lsle_at hw
  refine h l N sh ρ cT D p e s m args below meth c H locs al hC hX hW hA hS ?_ hst ⟨h1.trans hL.1, lv_mono hL.2 ?_⟩
  · intro v hv
    obtain ⟨i, hi⟩ := List.getElem?_of_mem hv
    exact hls v (List.mem_of_getElem? (h2 i v hi))
  · intro q hq
    obtain ⟨v, g1, g2⟩ := mem_lvl.mp hq
    exact mem_lvl.mpr ⟨v, h2 _ _ g1, g2⟩
def isB (x : Int32) : Prop := x = 0 ∨ x = 1
theorem isB_nar {x : Int32} (h : isB x) : narrow .boolean (.int x) = .int x := by
  rcases h with rfl | rfl <;> rfl
theorem Ev_tab {d : Nat} {y : MethodName} {cc : ByteArray} {nL : Nat} {ret : Option FieldType} {pc : Nat} {ls : List (Option V)} {st : List V} {μ μ' : Mem} {r : Option V} {dflt lo hi : Int} {offs : Array Int} {len : Nat} {x : Int32} (tgt0 : Nat) (hd : decode cc pc = .ok (.tableswitch dflt lo hi offs, len)) (ht0 : (pc : Int) + dflt = (tgt0 : Int))
    (hin : ∀ k : Nat, (k : Int) ≤ hi - lo → x.toInt = lo + (k : Int) → ∃ (off : Int) (tgt : Nat), offs[k]? = some off ∧ (pc : Int) + off = (tgt : Int) ∧ Ev d y cc nL ret tgt ls st μ r μ') (hout : (x.toInt < lo ∨ hi < x.toInt) → Ev d y cc nL ret tgt0 ls st μ r μ') : Ev d y cc nL ret pc ls (vi x :: st) μ r μ' := by
  by_cases q : x.toInt < lo ∨ hi < x.toInt
  · exact Ev_tabOut tgt0 hd q ht0 (hout q)
  · have q1 : ¬ x.toInt < lo := fun z => q (Or.inl z)
    have q2 : ¬ hi < x.toInt := fun z => q (Or.inr z)
    obtain ⟨off, tgt, h1, h2, h3⟩ := hin (x.toInt - lo).toNat (by omega) (by omega)
    exact Ev_tabIn tgt hd q1 q2 h1 h2 h3
section Rets
variable {d : Nat} {y : MethodName} {cc : ByteArray} {nL : Nat} {ret : Option FieldType} {pc : Nat} {ls : List (Option V)} {μ : Mem}
theorem R_i {x : Int32} {ty : FieldType} (hr : ret = some ty) (hd : decode cc pc = .ok (.ireturn, 1)) (hn : narrow ty (.int x) = .int x) : Ev d y cc nL ret pc ls [vi x] μ (some (vi x)) μ := Ev_iret (st := []) (r := none) (μ' := μ) hr hd hn
theorem R_l {x : Int64} (hr : ret = some .long) (hd : decode cc pc = .ok (.lreturn, 1)) : Ev d y cc nL ret pc ls [vl x] μ (some (vl x)) μ := Ev_lret (st := []) (r := none) (μ' := μ) hr hd
theorem R_v (hr : ret = none) (hd : decode cc pc = .ok (.return_, 1)) : Ev d y cc nL ret pc ls [] μ none μ := Ev_vret (st := []) (r := none) (μ' := μ) hr hd
theorem R_a {t n a : Nat} {C : String} (hr : ret = some (.object C)) (hd : decode cc pc = .ok (.areturn, 1)) : Ev d y cc nL ret pc ls [vr t n a] μ (some (vr t n a)) μ := Ev_aret (st := []) (r := none) (μ' := μ) hr hd
end Rets
