/-! ===== the pure picture: values, memory, worlds ===== -/
/-- the good words of the tables -/
def tb : List Cond := lw_tbl.filter goodWord
theorem tb_good {w : Cond} (h : w ∈ tb) : (w.onTables && w.keeps) = true ∨ ∃ ty, w = .arrayClass ty := good_of_word (List.mem_filter.mp h).2
theorem tb_mem {w : Cond} (i : Nat) (h : lw_tbl[i]? = some w) (g : goodWord w = true) : w ∈ tb := List.mem_filter.mpr ⟨List.mem_of_getElem? h, g⟩
abbrev V : Type := Int32 ⊕ (Int64 ⊕ (Nat × Nat × Nat))
abbrev vi (x : Int32) : V := .inl x
abbrev vl (x : Int64) : V := .inr (.inl x)
abbrev vr (t n a : Nat) : V := .inr (.inr (t, n, a))
abbrev Mem : Type := (Nat → Nat → Int32) × ((Nat → Nat → Int64) × (Nat → Nat → Nat))
def sA (μ : Mem) (a : Nat) (f : Nat → Int32) : Mem := (va_up μ.1 a f, μ.2)
def sB (μ : Mem) (a : Nat) (f : Nat → Int64) : Mem := (μ.1, (va_up μ.2.1 a f, μ.2.2))
def sI (μ : Mem) (a k : Nat) (x : Int32) : Mem := sA μ a (upd (μ.1 a) k x)
def sJ (μ : Mem) (a k : Nat) (x : Int64) : Mem := sB μ a (vp_updL (μ.2.1 a) k x)
def sP (μ : Mem) (a k : Nat) (b : Nat) : Mem := (μ.1, (μ.2.1, va_up μ.2.2 a (va_up (μ.2.2 a) k b)))
def toV (ρ : Nat → Nat) : V → Value
  | .inl x => .int x
  | .inr (.inl x) => .long x
  | .inr (.inr q) => .ref (ρ q.2.2)
/-- fields: kind (0 a number, 2 a fixed cell, 3 a plan), tag, length, how far away -/
def ftab : List (List (Nat × Nat × Nat × Nat)) := [[(2, 11, 4, 1), (2, 11, 4, 2), (2, 11, 4, 3), (2, 17, 5, 4), (0, 0, 0, 0), (0, 0, 0, 0), (0, 0, 0, 0)], [(2, 11, 512, 1), (2, 11, 32, 2), (2, 11, 9, 3), (0, 0, 0, 0)], [(2, 15, 30, 1), (0, 0, 0, 0), (0, 0, 0, 0)], [(0, 0, 0, 0), (0, 0, 0, 0), (0, 0, 0, 0), (0, 0, 0, 0), (0, 0, 0, 0), (0, 0, 0, 0), (0, 0, 0, 0), (2, 11, 48, 1), (2, 11, 6, 2), (2, 11, 6, 3), (2, 11, 6, 4), (2, 11, 4, 5), (2, 11, 4, 6), (2, 1, 0, 7), (2, 1, 0, 11), (2, 1, 0, 15)], [(2, 6, 0, 1), (3, 3, 0, 0), (0, 0, 0, 0), (0, 0, 0, 0), (2, 13, 10, 6), (0, 0, 0, 0), (0, 0, 0, 0), (0, 0, 0, 0), (0, 0, 0, 0), (0, 0, 0, 0)], [(0, 0, 0, 0), (0, 0, 0, 0), (2, 11, 48, 1), (2, 11, 32, 2), (2, 11, 6, 3), (2, 11, 6, 4)], [(2, 13, 21, 1), (2, 11, 401, 2), (2, 11, 401, 3), (2, 13, 401, 4), (0, 0, 0, 0)], [(3, 3, 0, 0), (2, 11, 2048, 1), (2, 11, 2048, 2), (2, 11, 48, 3), (0, 0, 0, 0), (0, 0, 0, 0)], [(2, 11, 20, 1), (2, 11, 20, 2), (2, 11, 20, 3), (0, 0, 0, 0), (0, 0, 0, 0), (0, 0, 0, 0), (2, 16, 4, 4), (2, 11, 192, 9), (0, 0, 0, 0), (2, 11, 10, 10)], [(2, 12, 2000, 1), (0, 0, 0, 0), (0, 0, 0, 0), (2, 4, 0, 2), (3, 3, 0, 0), (2, 7, 0, 9), (2, 5, 0, 13), (2, 5, 0, 18), (2, 2, 0, 23), (2, 15, 3, 175), (2, 14, 3, 191), (2, 8, 0, 192), (2, 0, 0, 203), (2, 11, 4, 213)], [(0, 0, 0, 0), (2, 12, 2000, 1), (0, 0, 0, 0), (2, 12, 2000, 2), (0, 0, 0, 0), (2, 11, 403, 3), (2, 11, 403, 4), (2, 11, 403, 5), (2, 13, 403, 6), (2, 13, 21, 7), (0, 0, 0, 0), (0, 0, 0, 0), (0, 0, 0, 0), (0, 0, 0, 0), (0, 0, 0, 0), (0, 0, 0, 0), (0, 0, 0, 0), (0, 0, 0, 0), (0, 0, 0, 0), (0, 0, 0, 0), (0, 0, 0, 0), (2, 13, 10, 8), (2, 11, 2, 9), (2, 11, 2, 10), (2, 11, 96, 11), (2, 11, 2, 12), (2, 11, 12, 13), (2, 11, 12, 14), (2, 11, 2, 15), (2, 11, 8, 16), (2, 11, 8, 17), (2, 11, 2, 18), (2, 11, 2, 19), (2, 11, 2, 20), (2, 11, 6, 21), (2, 11, 6, 22), (0, 0, 0, 0), (2, 14, 260, 23), (2, 11, 260, 24), (2, 11, 260, 25), (2, 11, 260, 26), (2, 11, 260, 27), (0, 0, 0, 0), (2, 11, 840, 28), (2, 11, 840, 29), (2, 11, 64, 30), (0, 0, 0, 0), (2, 11, 9, 31), (2, 11, 400, 32), (0, 0, 0, 0), (2, 11, 92, 33), (2, 11, 92, 34), (0, 0, 0, 0), (0, 0, 0, 0), (2, 11, 2760, 35), (0, 0, 0, 0), (0, 0, 0, 0), (2, 11, 4, 36), (2, 11, 4, 37), (2, 11, 4, 38), (2, 11, 24, 39), (0, 0, 0, 0), (0, 0, 0, 0), (0, 0, 0, 0), (2, 11, 24, 40), (0, 0, 0, 0), (2, 11, 20, 41), (2, 11, 20, 42), (2, 14, 256, 43), (2, 11, 10, 44), (2, 14, 3, 45), (2, 11, 276, 46)]]
def ft (t k : Nat) : Nat × Nat × Nat × Nat := (ftab.getD t []).getD k (0, 0, 0, 0)
def nf (t : Nat) : Nat := (ftab.getD t []).length
abbrev CL : List vw_C := [(RX0, TX0, 7), (RX1, TX1, 4), (RX2, TX2, 3), (RX3, TX3, 16), (RX4, TX4, 10), (RX5, TX5, 6), (RX6, TX6, 5), (RX7, TX7, 6), (RX8, TX8, 10), (RX9, TX9, 14), (RX10, TX10, 72)]
def fval (ρ : Nat → Nat) (μ : Mem) (t a k : Nat) : Value := match (ft t k).1 with
  | 0 => .int (μ.1 a k)
  | 2 => .ref (ρ (a + (ft t k).2.2.2))
  | _ => .ref (ρ (μ.2.2 a k))
def fvals (ρ : Nat → Nat) (μ : Mem) (t a : Nat) : List Value := (List.range (nf t)).map (fval ρ μ t a)
/-- of an array of cells: what its places are, how far they lie apart -/
def et (t : Nat) : Nat × Nat × Nat := match t with
  | 15 => (5, 0, 5)
  | 16 => (11, 48, 1)
  | _ => (11, 8, 1)
def arrC (ρ : Nat → Nat) (μ : Mem) (t a : Nat) : ((Nat → Int32) ⊕ ((Nat → Int64) ⊕ ((Nat → UInt32) ⊕ ((Nat → UInt64) ⊕ (Nat → Option Nat))))) :=
  if t = 13 then .inr (.inl (μ.2.1 a)) else if t < 15 then .inl (μ.1 a) else .inr (.inr (.inr (.inr (fun j => some (ρ (a + 1 + (et t).2.2 * j))))))
def cellE (ρ : Nat → Nat) (cT : Nat → ClassId) (μ : Mem) (a : Nat) (q : Nat × Nat) : va_E := if q.1 < 11 then .inr (q.1, fvals ρ μ q.1 a) else .inl (cT q.1, q.2, arrC ρ μ q.1 a)
def wl (N : Nat) (sh : Nat → Nat × Nat) (ρ : Nat → Nat) (cT : Nat → ClassId) (μ : Mem) : va_W := (List.range N).map fun a => (ρ a, cellE ρ cT μ a (sh a))
def tyz (cT : Nat → ClassId) : List (ClassId × FieldType) := [(cT 11, .int), (cT 12, .byte), (cT 13, .long), (cT 14, .boolean), (cT 15, .object RX5), (cT 16, .array .int), (cT 17, .array .int)]
def VOK (N : Nat) (sh : Nat → Nat × Nat) : V → Prop
  | .inl _ => True
  | .inr (.inl _) => True
  | .inr (.inr q) => if q.1 < 18 then (q.2.2 < N ∧ sh q.2.2 = (q.1, q.2.1)) else if q.1 = 20 then (q.2.1 < 2 ∧ q.2.2 = 1000000 + 2 * q.2.1) else (q.2.1 < 2 ∧ q.2.2 = 1000001 + 2 * q.2.1)
theorem VOK_lt {N : Nat} {sh : Nat → Nat × Nat} {t n a : Nat} (ht : t < 18) (h : VOK N sh (vr t n a)) : a < N ∧ sh a = (t, n) := by
  have h : if t < 18 then (a < N ∧ sh a = (t, n)) else if t = 20 then (n < 2 ∧ a = 1000000 + 2 * n) else (n < 2 ∧ a = 1000001 + 2 * n) := h
  rwa [if_pos ht] at h
theorem VOK_mk {N : Nat} {sh : Nat → Nat × Nat} {t n a : Nat} (ht : t < 18) (h : a < N ∧ sh a = (t, n)) : VOK N sh (vr t n a) := by
  show if t < 18 then (a < N ∧ sh a = (t, n)) else if t = 20 then (n < 2 ∧ a = 1000000 + 2 * n) else (n < 2 ∧ a = 1000001 + 2 * n)
  rwa [if_pos ht]
def Closed (N : Nat) (sh : Nat → Nat × Nat) : Prop :=
  (∀ a, a < N → (sh a).1 < 18) ∧ (∀ a, a < N → (sh a).1 < 11 → ∀ k, k < nf (sh a).1 → (ft (sh a).1 k).1 = 2 → a + (ft (sh a).1 k).2.2.2 < N ∧ sh (a + (ft (sh a).1 k).2.2.2) = ((ft (sh a).1 k).2.1, (ft (sh a).1 k).2.2.1)) ∧
  ∀ a, a < N → 15 ≤ (sh a).1 → ∀ j, j < (sh a).2 → a + 1 + (et (sh a).1).2.2 * j < N ∧ sh (a + 1 + (et (sh a).1).2.2 * j) = ((et (sh a).1).1, (et (sh a).1).2.1)
def Dyn (N : Nat) (sh : Nat → Nat × Nat) (μ : Mem) : Prop := ∀ a, a < N → (sh a).1 < 11 → ∀ k, k < nf (sh a).1 → (ft (sh a).1 k).1 = 3 → μ.2.2 a k < N ∧ sh (μ.2.2 a k) = (3, 0)
def Ain (N : Nat) (ρ : Nat → Nat) : Nat → Prop := fun q => ∃ a, a < N ∧ q = ρ a
abbrev bytW : List Int32 := [114, 111, 119, 32, 102, 105, 101, 108, 100, 32, 108, 111, 111, 109, 32, 119, 101, 97, 118, 101, 115, 32, 100, 114, 105, 101, 115, 32, 103, 97, 116, 104, 101, 114, 115, 32, 115, 116, 111, 114, 101, 32, 103, 117, 115, 116, 115, 32, 115, 101, 101, 100, 32, 105, 102, 32, 116, 104, 101, 110, 32, 101, 108, 115, 101, 32, 115, 104, 101, 100, 32, 119, 97, 114, 112, 32, 112, 105, 99, 107, 32, 119, 97, 116, 101, 114, 32, 110, 101, 101, 100, 115, 32, 100, 114, 111, 119, 110, 115, 32, 100, 97, 121, 32, 119, 104, 105, 99, 104, 32, 119, 105, 100, 101, 32]
abbrev bytS : List Int32 := [59, 61, 43, 45, 42, 47, 60, 40, 41]
abbrev txW : String := "row field loom weaves dries gathers store gusts seed if then else shed warp pick water needs drowns day which wide "
abbrev txS : String := ";=+-*/<()"
/-- what lies around: the two texts (at the virtual addresses from 1000000 on), and that texts are narrow ones -/
def Amb (A : Nat → Prop) (ρ : Nat → Nat) (U : State) (H : Heap) : Prop := vk_S 2 [115, 9] [bytW, bytS] (fun i => ρ (1000000 + 2 * i)) (fun i => ρ (1000001 + 2 * i)) A U H ∧ vk_R RX6 27 txW (ρ 1000000) U ∧ vk_R RX6 77 txS (ρ 1000002) U ∧ va_Z "java/lang/String" "COMPACT_STRINGS" "Z" (.int 1) A U H ∧ va_Nw (.methodLinkNest RX0 34 yX9_isSize RX9) U ∧ va_Zq "jdk/internal/util/Preconditions" "SIOOBE_FORMATTER" "Ljava/util/function/BiFunction;" A U H
theorem Amb.kept {A : Nat → Prop} {ρ : Nat → Nat} {U : State} {H H1 : Heap} (h : Amb A ρ U H) (hq : ∀ a : Nat, a < H.size → ¬ A a → H1[a]? = H[a]?) : Amb A ρ U H1 := by
  obtain ⟨h1, h2, h3, h4, h5, h6⟩ := h
  exact ⟨h1.kept hq, h2, h3, h4.kept hq, h5, h6.kept hq⟩
theorem Amb.warm {A : Nat → Prop} {ρ : Nat → Nat} {s U : State} {H : Heap} (hW : s.WarmedH U.vm) (h : Amb A ρ s H) : Amb A ρ U H := by
  obtain ⟨h1, h2, h3, h4, h5, h6⟩ := h
  exact ⟨h1.moved hW.alike, h2.warm hW, h3.warm hW, h4.moved hW.alike, va_Nw.warmM hW h5, h6.moved hW.alike⟩
theorem Amb.same {A : Nat → Prop} {ρ : Nat → Nat} {s U : State} {H : Heap} (hv : U.vm = s.vm) (h : Amb A ρ s H) : Amb A ρ U H := by
  obtain ⟨h1, h2, h3, h4, h5, h6⟩ := h
  have hz : s.vm.Alike U.vm := by rw [hv]; exact Vm.Alike.refl _
  exact ⟨h1.moved hz, h2.same hv, h3.same hv, h4.moved hz, va_Nw.same rfl hv.symm h5, h6.moved hz⟩
theorem Amb.narrow {A B : Nat → Prop} {ρ : Nat → Nat} {s : State} {H : Heap} (h : Amb A ρ s H) (hAB : ∀ q, B q → A q) : Amb B ρ s H := by
  obtain ⟨h1, h2, h3, h4, h5, h6⟩ := h
  exact ⟨h1.narrow hAB, h2, h3, h4.narrow hAB, h5, h6.narrow hAB⟩
def rmd (d : Nat) : Room := { frames := d + 1, cells := 0, slots := 0, locals := 40 * (d + 1) }
/-- the world at a state with heap H -/
def Wl (N : Nat) (sh : Nat → Nat × Nat) (ρ : Nat → Nat) (cT : Nat → ClassId) (D : va_G) (A : Nat → Prop) (μ : Mem) (U : State) (H : Heap) : Prop :=
  va_P D CL (wl N sh ρ cT μ) H ∧ va_K D CL (tyz cT) U ∧ va_D A (wl N sh ρ cT μ) ∧ Dyn N sh μ
def AB (N : Nat) (ρ : Nat → Nat) (A : Nat → Prop) : Prop := ∀ a, a < N → A (ρ a)
def RB (d : Nat) (R : Room) (cells slots : Nat) : Prop := d + 1 ≤ R.frames ∧ 40 * (d + 1) ≤ R.locals ∧ cells ≤ R.cells ∧ slots ≤ R.slots
def Pre (N : Nat) (sh : Nat → Nat × Nat) (ρ : Nat → Nat) (cT : Nat → ClassId) (D : va_G) (μ : Mem) (U : State) : Prop := Wl N sh ρ cT D (Ain N ρ) μ U U.heap ∧ Amb (Ain N ρ) ρ U U.heap
def QC (N : Nat) (sh : Nat → Nat × Nat) (ρ : Nat → Nat) (cT : Nat → ClassId) (D : va_G) (A : Nat → Prop) (r : Option V) (μ : Mem) : Array Value → State → Outcome → State → Prop := fun _ st o t =>
  o = .returned (r.map (toV ρ)) ∧ Wl N sh ρ cT D A μ t t.heap ∧ va_F A st t ∧ ∀ v, r = some v → VOK N sh v
/-- a method's contract: with these arguments and this memory it answers r and leaves μ' -/
def Me (d : Nat) (y : MethodName) (cc : ByteArray) (nL : Nat) (ret : Option FieldType) (vs : List V) (μ : Mem) (r : Option V) (μ' : Mem) : Prop :=
  ∀ (l : Launch) (N : Nat) (sh : Nat → Nat × Nat) (ρ : Nat → Nat) (cT : Nat → ClassId) (D : va_G), Closed N sh → (∀ v ∈ vs, VOK N sh v) →
    Met l y (.code y cc nL ret :: tb) (rmd d) (va_Pc (vs.map (toV ρ)) (Pre N sh ρ cT D μ)) (QC N sh ρ cT D (Ain N ρ) r μ') 0 0 (Ain N ρ)
def Cx (y : MethodName) (cc : ByteArray) (nL : Nat) (ret : Option FieldType) (p : Program) (s : State) (m : MethodId) (args : Array Value) (meth : Method) (c : Code) : Prop :=
  p.tables.exec = Jvm.exec ∧ c.code = cc ∧ c.maxLocals = nL ∧ meth.sig.returnType = ret ∧ s.vm.findClass y.cls = some m.cls ∧ (∀ w ∈ tb, w.before args s = true) ∧ meth.locks = false
def lvl (ρ : Nat → Nat) (ls : List (Option V)) : List (Nat × Value) := (List.range ls.length).filterMap fun i => (ls.getD i none).map fun v => (i, toV ρ v)
def LR (ρ : Nat → Nat) (al : Array Slot) (nL : Nat) (ls : List (Option V)) : Prop := ls.length = nL ∧ lv_has al nL (lvl ρ ls)
def LV (N : Nat) (sh : Nat → Nat × Nat) (ls : List (Option V)) : Prop := ∀ v, some v ∈ ls → VOK N sh v
def SV (N : Nat) (sh : Nat → Nat × Nat) (st : List V) : Prop := ∀ v ∈ st, VOK N sh v
/-- from this frame with this memory the method comes to its end with r and μ' -/
def Ev (d : Nat) (y : MethodName) (cc : ByteArray) (nL : Nat) (ret : Option FieldType) (pc : Nat) (ls : List (Option V)) (st : List V) (μ : Mem) (r : Option V) (μ' : Mem) : Prop :=
  ∀ (l : Launch) (R : Room) (N : Nat) (sh : Nat → Nat × Nat) (ρ : Nat → Nat) (cT : Nat → ClassId) (D : va_G) (A : Nat → Prop) (p : Program) (e : Env) (s : State) (m : MethodId) (args : Array Value) (below : List Frame) (meth : Method) (c : Code) (H : Heap) (locs : List Loc) (cells slots : Nat) (al : Array Slot),
    RB d R cells slots → Closed N sh → AB N ρ A → Cx y cc nL ret p s m args meth c → Wl N sh ρ cT D A μ s H → Amb A ρ s s.heap → va_S A s.heap H locs → LV N sh ls → SV N sh st → LR ρ al nL ls →
    W p l e R s m args below meth c H locs cells slots (MQ below (QC N sh ρ cT D A r μ') args s cells slots A) (F0 m pc al (st.map (toV ρ)))
theorem SV.cons {N : Nat} {sh : Nat → Nat × Nat} {v : V} {st : List V} (h : VOK N sh v) (k : SV N sh st) : SV N sh (v :: st) := fun w hw => by
  rcases List.mem_cons.mp hw with rfl | q
  · exact h
  · exact k w q
theorem SV.tl {N : Nat} {sh : Nat → Nat × Nat} {v : V} {st : List V} (k : SV N sh (v :: st)) : SV N sh st := fun w hw => k w (List.mem_cons_of_mem _ hw)
theorem SV.hd {N : Nat} {sh : Nat → Nat × Nat} {v : V} {st : List V} (k : SV N sh (v :: st)) : VOK N sh v := k v List.mem_cons_self
theorem LR.at {ρ : Nat → Nat} {al : Array Slot} {nL : Nat} {ls : List (Option V)} (h : LR ρ al nL ls) {i : Nat} {v : V} (hi : ls.getD i none = some v) : al[i]? = some (.val (toV ρ v)) := by
  refine h.2.2.2 (i, toV ρ v) (List.mem_filterMap.mpr ⟨i, List.mem_range.mpr ?_, by rw [hi]; rfl⟩)
  rcases Nat.lt_or_ge i ls.length with q | q
  · exact q
  · rw [List.getD_eq_getElem?_getD, List.getElem?_eq_none q] at hi
    cases hi
theorem LV.at {N : Nat} {sh : Nat → Nat × Nat} {ls : List (Option V)} (h : LV N sh ls) {i : Nat} {v : V} (hi : ls.getD i none = some v) : VOK N sh v := by
  apply h
  rw [List.getD_eq_getElem?_getD] at hi
  cases hq : ls[i]? with
  | none => rw [hq] at hi; cases hi
  | some z =>
    rw [hq] at hi
    have : z = some v := hi
    rw [← this]
    exact List.mem_of_getElem? hq
theorem LV.set {N : Nat} {sh : Nat → Nat × Nat} {ls : List (Option V)} (h : LV N sh ls) {i : Nat} {v : V} (hv : VOK N sh v) : LV N sh (ls.set i (some v)) := by
  intro w hw
  rcases List.mem_or_eq_of_mem_set hw with q | q
  · exact h w q
  · cases q; exact hv
theorem LV.setN {N : Nat} {sh : Nat → Nat × Nat} {ls : List (Option V)} (h : LV N sh ls) {i : Nat} : LV N sh (ls.set i none) := by
  intro w hw
  rcases List.mem_or_eq_of_mem_set hw with q | q
  · exact h w q
  · cases q
theorem lv_mono {al : Array Slot} {nL : Nat} {l l' : List (Nat × Value)} (h : lv_has al nL l) (hm : ∀ q ∈ l', q ∈ l) : lv_has al nL l' := ⟨h.1, h.2.1, fun q hq => h.2.2 q (hm q hq)⟩
theorem mem_lvl {ρ : Nat → Nat} {ls : List (Option V)} {q : Nat × Value} : q ∈ lvl ρ ls ↔ ∃ v, ls[q.1]? = some (some v) ∧ q.2 = toV ρ v := by
  constructor
  · intro h
    obtain ⟨i, hi, h⟩ := List.mem_filterMap.mp h
    have hi := List.mem_range.mp hi
    rw [List.getD_eq_getElem?_getD, List.getElem?_eq_getElem hi] at h
    cases hz : ls[i] with
    | none => rw [hz] at h; cases h
    | some v =>
      rw [hz] at h
      cases h
      exact ⟨v, by rw [List.getElem?_eq_getElem hi, hz], rfl⟩
  · rintro ⟨v, h1, h2⟩
    have hi := (List.getElem?_eq_some_iff.mp h1).1
    refine List.mem_filterMap.mpr ⟨q.1, List.mem_range.mpr hi, ?_⟩
    rw [List.getD_eq_getElem?_getD, h1]
    show some (q.1, toV ρ v) = some q
    rw [← h2]
/-- a store of one slot -/
theorem LR.st1 {ρ : Nat → Nat} {al al' : Array Slot} {nL : Nat} {ls : List (Option V)} {i : Nat} {v : V} (h : LR ρ al nL ls) (hp : ∀ x, i ≠ 0 → ls.getD (i - 1) none ≠ some (vl x)) (h' : lv_has al' nL ((i, toV ρ v) :: (lvl ρ ls).filter (fun q => !(q.1 == i) && !(q.1 + 1 == i && q.2.category == 2)))) : LR ρ al' nL (ls.set i (some v)) := by
  refine ⟨by rw [List.length_set]; exact h.1, lv_mono h' ?_⟩
  intro q hq
  obtain ⟨w, h1, h2⟩ := mem_lvl.mp hq
  by_cases e : q.1 = i
  · have hi : i < ls.length := by
      have := (List.getElem?_eq_some_iff.mp h1).1
      rw [List.length_set] at this
      omega
    rw [e, List.getElem?_set_self hi] at h1
    cases h1
    have : q = (i, toV ρ v) := by rw [← h2, ← e]
    rw [this]
    exact List.mem_cons_self
  · rw [List.getElem?_set_ne (fun z => e z.symm)] at h1
    refine List.mem_cons_of_mem _ (List.mem_filter.mpr ⟨mem_lvl.mpr ⟨w, h1, h2⟩, ?_⟩)
    have e1 : (q.1 == i) = false := by simpa using e
    rw [e1]
    by_cases e2 : q.1 + 1 = i
    · have hw : q.2.category ≠ 2 := by
        rw [h2]
        match w, h1 with
        | .inl x, _ => exact fun z => by cases z
        | .inr (.inr x), _ => exact fun z => by cases z
        | .inr (.inl x), h1 =>
          exfalso
          refine hp x (by omega) ?_
          rw [List.getD_eq_getElem?_getD, show i - 1 = q.1 by omega, h1]
          rfl
      have e3 : (q.2.category == 2) = false := by simpa using hw
      rw [e3]
      simp
    · have e3 : (q.1 + 1 == i) = false := by simpa using e2
      rw [e3]
      rfl
