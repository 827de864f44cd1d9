/-! ===== a world made in another order than it is told ===== -/
theorem arrV_c {cA : ClassId} {n : Nat} {f g : Nat → Value} (h : ∀ j, j < n → f j = g j) : arrV cA n f = arrV cA n g := by
  unfold arrV
  have : (fun j : Fin n => f j.val) = fun j : Fin n => g j.val := funext fun j => h j.val j.isLt
  rw [this]
def rnV (π : Nat → Nat) : V → V
  | .inl x => .inl x
  | .inr (.inl x) => .inr (.inl x)
  | .inr (.inr q) => vr q.1 q.2.1 (π q.2.2)
def rnC (π : Nat → Nat) : CE → CE
  | .inl o => .inl (o.1, o.2.map (Option.map (rnV π)))
  | .inr (t, n, .inl f) => .inr (t, n, .inl f)
  | .inr (t, n, .inr (.inl f)) => .inr (t, n, .inr (.inl f))
  | .inr (t, n, .inr (.inr f)) => .inr (t, n, .inr (.inr (fun j => (f j).map π)))
theorem rnV_E {π ρ : Nat → Nat} : ∀ {v : V}, toV ρ (rnV π v) = toV (fun a => ρ (π a)) v
  | .inl _ => rfl
  | .inr (.inl _) => rfl
  | .inr (.inr _) => rfl
theorem rnC_E {π ρ : Nat → Nat} {cT : Nat → ClassId} : ∀ {x : CE}, ceE ρ cT (rnC π x) = ceE (fun a => ρ (π a)) cT x
  | .inl o => by
    show Sum.inr (o.1, (o.2.map (Option.map (rnV π))).map (cval ρ)) = Sum.inr (o.1, o.2.map (cval (fun a => ρ (π a))))
    rw [List.map_map]
    congr 2
    apply List.map_congr_left
    intro v _
    match v with
    | none => rfl
    | some v => exact rnV_E
  | .inr (t, n, .inl f) => rfl
  | .inr (t, n, .inr (.inl f)) => rfl
  | .inr (t, n, .inr (.inr f)) => by
    have e : (fun j => ((f j).map π).map ρ) = fun j => (f j).map (fun a => ρ (π a)) := by
      funext j
      cases f j <;> rfl
    show Sum.inl (cT t, n, Sum.inr (Sum.inr (Sum.inr (Sum.inr (fun j => ((f j).map π).map ρ))))) = _
    rw [e]
    rfl
/-- two tellings of one cell -/
def cellQ (e e' : va_E) : Prop := ∀ (D : va_G) (q : Nat) (H : Heap), va_at D CL (q, e) H ↔ va_at D CL (q, e') H
theorem cellQ.rf {e : va_E} : cellQ e e := fun _ _ _ => Iff.rfl
theorem cellQ.of {e e' : va_E} (h : e = e') : cellQ e e' := h ▸ cellQ.rf
theorem cellQ.sy {e e' : va_E} (h : cellQ e e') : cellQ e' e := fun D q H => (h D q H).symm
theorem cellQ.tr {a b c : va_E} (h : cellQ a b) (k : cellQ b c) : cellQ a c := fun D q H => (h D q H).trans (k D q H)
theorem cellQ_q {cA : ClassId} {n : Nat} {f g : Nat → Option Nat} (h : ∀ j, j < n → f j = g j) : cellQ (.inl (cA, n, .inr (.inr (.inr (.inr f))))) (.inl (cA, n, .inr (.inr (.inr (.inr g))))) := fun D q H => by
  show H[q]? = some (arrV cA n (fun j => va_rf (f j))) ↔ H[q]? = some (arrV cA n (fun j => va_rf (g j)))
  rw [arrV_c (f := fun j => va_rf (f j)) (g := fun j => va_rf (g j)) (fun j hj => by rw [h j hj])]
/-- the cells of a world, its rows of cells cut off where they end -/
def ceT (sh : Nat → Nat × Nat) (μ : Mem) (a : Nat) : CE :=
  if (sh a).1 < 11 then .inl ((sh a).1, (List.range (nf (sh a).1)).map fun k => some (fV μ (sh a).1 a k))
  else .inr ((sh a).1, (sh a).2, if (sh a).1 = 13 then .inr (.inl (μ.2.1 a)) else if (sh a).1 < 15 then .inl (μ.1 a) else .inr (.inr (fun j => if j < (sh a).2 then some (a + 1 + (et (sh a).1).2.2 * j) else none)))
theorem ceT_E {sh : Nat → Nat × Nat} {μ : Mem} {ρ : Nat → Nat} {cT : Nat → ClassId} {a : Nat} : cellQ (ceE ρ cT (ceT sh μ a)) (cellE ρ cT μ a (sh a)) := by
  unfold ceT cellE
  by_cases h : (sh a).1 < 11
  · rw [if_pos h, if_pos h]
    apply cellQ.of
    show Sum.inr ((sh a).1, ((List.range (nf (sh a).1)).map fun k => some (fV μ (sh a).1 a k)).map (cval ρ)) = _
    rw [List.map_map]
    unfold fvals
    congr 2
    apply List.map_congr_left
    intro k _
    exact fV_val ρ μ _ a k
  · rw [if_neg h, if_neg h]
    unfold arrC
    by_cases h1 : (sh a).1 = 13
    · rw [if_pos h1, if_pos h1]; exact cellQ.rf
    · rw [if_neg h1, if_neg h1]
      by_cases h2 : (sh a).1 < 15
      · rw [if_pos h2, if_pos h2]; exact cellQ.rf
      · rw [if_neg h2, if_neg h2]
        exact cellQ_q fun j hj => by
          show Option.map ρ (if j < (sh a).2 then some (a + 1 + (et (sh a).1).2.2 * j) else none) = _
          rw [if_pos hj]
          rfl
theorem ceT_WF {N : Nat} {sh : Nat → Nat × Nat} {μ : Mem} (hC : Closed N sh) (hD : Dyn N sh μ) {a : Nat} (ha : a < N) : CC N (ceT sh μ a) := by
  unfold ceT
  by_cases h : (sh a).1 < 11
  · rw [if_pos h]
    intro v hv
    obtain ⟨k, hk, e⟩ := List.mem_map.mp hv
    have hk := List.mem_range.mp hk
    cases e
    have hcl := hC.2.1 a ha h k hk
    have hdy := hD a ha h k hk
    have hkd := ft_kind _ h k hk
    unfold fV
    generalize ft (sh a).1 k = z at hcl hdy hkd ⊢
    obtain ⟨z1, z2⟩ := z
    rcases hkd with e | e | e
    · cases e; trivial
    · cases e; exact (hcl rfl).1
    · cases e; exact (hdy rfl).1
  · rw [if_neg h]
    by_cases h1 : (sh a).1 = 13
    · rw [if_pos h1]; trivial
    · rw [if_neg h1]
      by_cases h2 : (sh a).1 < 15
      · rw [if_pos h2]; trivial
      · rw [if_neg h2]
        intro j b e
        have e : (if j < (sh a).2 then some (a + 1 + (et (sh a).1).2.2 * j) else none) = some b := e
        by_cases hj : j < (sh a).2
        · rw [if_pos hj] at e
          cases e
          exact (hC.2.2 a ha (by omega) j hj).1
        · rw [if_neg hj] at e; cases e
/-- an order: π where a cell was made, σ back -/
def Ord (N : Nat) (π σ : Nat → Nat) : Prop := (∀ a, a < N → π a < N ∧ σ (π a) = a) ∧ (∀ b, b < N → σ b < N ∧ π (σ b) = b) ∧ (∀ a, 1000000 ≤ a → π a = a) ∧ π 0 = 0
theorem rnC_C {N : Nat} {π σ : Nat → Nat} (ho : Ord N π σ) : ∀ {x : CE}, CC N x → CC N (rnC π x)
  | .inl o, hx => fun v hv => by
    obtain ⟨w, hw, e⟩ := List.mem_map.mp hv
    match w, hw, e with
    | none, _, e => cases e
    | some (.inl x), _, e => cases e; trivial
    | some (.inr (.inl x)), _, e => cases e; trivial
    | some (.inr (.inr q)), hw, e => cases e; exact (ho.1 _ (hx _ hw)).1
  | .inr (t, n, .inl f), _ => trivial
  | .inr (t, n, .inr (.inl f)), _ => trivial
  | .inr (t, n, .inr (.inr f)), hx => fun j b e => by
    have e : (f j).map π = some b := e
    cases hj : f j with
    | none => rw [hj] at e; cases e
    | some z => rw [hj] at e; cases e; exact (ho.1 _ (hx j z hj)).1
theorem wl_lt {N : Nat} {sh : Nat → Nat × Nat} {ρ : Nat → Nat} {cT : Nat → ClassId} {μ : Mem} {a : Nat} {q : Nat × va_E} (h : (wl N sh ρ cT μ)[a]? = some q) : a < N := by
  have := (List.getElem?_eq_some_iff.mp h).1
  unfold wl at this
  rw [List.length_map, List.length_range] at this
  exact this
theorem wc_lt {N : Nat} {ce : Nat → CE} {ρ : Nat → Nat} {cT : Nat → ClassId} {a : Nat} {q : Nat × va_E} (h : (wc N ce ρ cT)[a]? = some q) : a < N := by
  have := (List.getElem?_eq_some_iff.mp h).1
  unfold wc at this
  rw [List.length_map, List.length_range] at this
  exact this
def cellsOf (N : Nat) (π : Nat → Nat) (sh : Nat → Nat × Nat) (μ : Mem) (ce : Nat → CE) : Prop := ∀ (ρ : Nat → Nat) (cT : Nat → ClassId) (a : Nat), a < N → cellQ (cellE (fun a => ρ (π a)) cT μ a (sh a)) (ceE ρ cT (ce (π a)))
theorem toWl {N : Nat} {π σ : Nat → Nat} {sh : Nat → Nat × Nat} {μ : Mem} {ce : Nat → CE} {ρ : Nat → Nat} {cT : Nat → ClassId} {D : va_G} {A : Nat → Prop} {U : State} {H : Heap} (ho : Ord N π σ) (hD : Dyn N sh μ) (hc : cellsOf N π sh μ ce) (h : WC N ce ρ cT D A U H) : Wl N sh (fun a => ρ (π a)) cT D A μ U H := by
  refine ⟨fun k q hq => ?_, h.2.1, ⟨fun i j p q hp hq e => ?_, fun k q hq => ?_⟩, hD⟩
  · have hk := wl_lt hq
    rw [wl_get hk] at hq
    cases hq
    exact (hc ρ cT k hk D _ H).2 (h.1 (π k) _ (wc_get (ho.1 k hk).1))
  · have hi := wl_lt hp
    have hj := wl_lt hq
    rw [wl_get hi] at hp
    rw [wl_get hj] at hq
    cases hp
    cases hq
    have := h.2.2.1.1 (π i) (π j) _ _ (wc_get (ho.1 i hi).1) (wc_get (ho.1 j hj).1) e
    rw [← (ho.1 i hi).2, ← (ho.1 j hj).2, this]
  · have hk := wl_lt hq
    rw [wl_get hk] at hq
    cases hq
    have := h.2.2.1.2 (π k) _ (wc_get (ho.1 k hk).1)
    exact this
def ceS (π σ : Nat → Nat) (sh : Nat → Nat × Nat) (μ : Mem) : Nat → CE := fun b => rnC π (ceT sh μ (σ b))
theorem toWC {N : Nat} {π σ : Nat → Nat} {sh : Nat → Nat × Nat} {μ : Mem} {ρ : Nat → Nat} {cT : Nat → ClassId} {D : va_G} {A : Nat → Prop} {U : State} {H : Heap} (ho : Ord N π σ) (hC : Closed N sh) (h : Wl N sh (fun a => ρ (π a)) cT D A μ U H) : WC N (ceS π σ sh μ) ρ cT D A U H := by
  have ra : ∀ b, b < N → ρ b = ρ (π (σ b)) := fun b hb => by rw [(ho.2.1 b hb).2]
  refine ⟨fun k q hq => ?_, h.2.1, ⟨fun i j p q hp hq e => ?_, fun k q hq => ?_⟩, fun a ha => rnC_C ho (ceT_WF hC h.2.2.2 (ho.2.1 a ha).1)⟩
  · have hk := wc_lt hq
    rw [wc_get hk] at hq
    cases hq
    have h1 := h.1 (σ k) _ (wl_get (ho.2.1 k hk).1)
    show va_at D CL (ρ k, ceE ρ cT (rnC π (ceT sh μ (σ k)))) H
    rw [rnC_E, ra k hk]
    exact (ceT_E D _ H).2 h1
  · have hi := wc_lt hp
    have hj := wc_lt hq
    rw [wc_get hi] at hp
    rw [wc_get hj] at hq
    cases hp
    cases hq
    have e : ρ i = ρ j := e
    rw [ra i hi, ra j hj] at e
    have := h.2.2.1.1 (σ i) (σ j) _ _ (wl_get (ho.2.1 i hi).1) (wl_get (ho.2.1 j hj).1) e
    rw [← (ho.2.1 i hi).2, ← (ho.2.1 j hj).2, this]
  · have hk := wc_lt hq
    rw [wc_get hk] at hq
    cases hq
    have := h.2.2.1.2 (σ k) _ (wl_get (ho.2.1 k hk).1)
    show A (ρ k)
    rw [ra k hk]
    exact this
theorem ceS_cells {N : Nat} {π σ : Nat → Nat} {sh : Nat → Nat × Nat} {μ : Mem} (ho : Ord N π σ) : cellsOf N π sh μ (ceS π σ sh μ) := fun ρ cT a ha => by
  show cellQ _ (ceE ρ cT (rnC π (ceT sh μ (σ (π a)))))
  rw [rnC_E, (ho.1 a ha).2]
  exact ceT_E.sy
theorem C_toEvP {d : Nat} {y : MethodName} {cc : ByteArray} {nL : Nat} {pc : Nat} {ls : List (Option V)} {st : List V} {N : Nat} {ce : Nat → CE} {sh : Nat → Nat × Nat} {μ μ' : Mem} {π σ : Nat → Nat} (ho : Ord N π σ) (hC : Closed N sh) (hD : Dyn N sh μ) (hc : cellsOf N π sh μ ce) (hls : LV N sh ls) (hst : SV N sh st) (hlr : ∀ v, some v ∈ ls → rnV π v = v) (hsr : ∀ v ∈ st, rnV π v = v) (k : Ev d y cc nL none pc ls st μ none μ') : EvC d y cc nL pc ls st N ce 0 0 N (ceS π σ sh μ') := by
  intro l R N0 ρ0 ρ cT D A p e s m args below meth c H locs cells slots fc fs al hR hF hE hA hX hN hW hB hM hS _ _ hL
  obtain ⟨rfl, rfl⟩ := hF
  have hAB : AB N (fun a => ρ (π a)) A := fun a ha => hW.2.2.1.2 (π a) _ (wc_get (ho.1 a ha).1)
  have hx : Ext 0 ρ (fun a => ρ (π a)) := fun a ha => congrArg ρ (ho.2.2.1 a (ha.elim (fun z => absurd z (Nat.not_lt_zero _)) id))
  have hL' : LR (fun a => ρ (π a)) al nL ls := by
    refine ⟨hL.1, lv_mono hL.2 ?_⟩
    intro q hq
    obtain ⟨v, h1, h2⟩ := mem_lvl.mp hq
    refine mem_lvl.mpr ⟨v, h1, ?_⟩
    rw [h2, ← rnV_E, hlr v (List.mem_of_getElem? h1)]
  have hst' : st.map (toV (fun a => ρ (π a))) = st.map (toV ρ) := List.map_congr_left fun v hv => by rw [← rnV_E, hsr v hv]
  have k1 := k l R N sh (fun a => ρ (π a)) cT D A p e s m args below meth c H locs cells slots al ⟨hR.1, hR.2.1, hR.2.2.1, hR.2.2.2⟩ hC hAB hX (toWl ho hD hc hW) (hB.ext hx) hS hls hst hL'
  rw [hst'] at k1
  intro T hT X
  obtain ⟨t, a1, o, b1, b2, ⟨c1, c2, c3, c4⟩, b4⟩ := k1 T hT X
  exact ⟨t, a1, o, b1, b2, ⟨c1, ⟨ρ, hE.1, toWC ho hC c2⟩, c3⟩, b4⟩
