/-! ===== a world that is whole: from the making to the judgement ===== -/
def fV (μ : Mem) (t a k : Nat) : V := match (ft t k).1 with
  | 0 => vi (μ.1 a k)
  | 2 => vr (ft t k).2.1 (ft t k).2.2.1 (a + (ft t k).2.2.2)
  | _ => vr 3 0 (μ.2.2 a k)
def ceOf (sh : Nat → Nat × Nat) (μ : Mem) (a : Nat) : CE :=
  if (sh a).1 < 11 then .inl ((sh a).1, (List.range (nf (sh a).1)).map fun k => some (fV μ (sh a).1 a k))
  else .inr ((sh a).1, (sh a).2, if (sh a).1 = 13 then .inr (.inl (μ.2.1 a)) else if (sh a).1 < 15 then .inl (μ.1 a) else .inr (.inr (fun j => some (a + 1 + (et (sh a).1).2.2 * j))))
theorem fV_val (ρ : Nat → Nat) (μ : Mem) (t a k : Nat) : toV ρ (fV μ t a k) = fval ρ μ t a k := by
  unfold fV fval
  generalize (ft t k).1 = z
  match z with
  | 0 => rfl
  | 1 => rfl
  | 2 => rfl
  | n + 3 => rfl
theorem ft_kind : ∀ t, t < 11 → ∀ k, k < nf t → (ft t k).1 = 0 ∨ (ft t k).1 = 2 ∨ (ft t k).1 = 3 := by decide +kernel
theorem ceOf_E {sh : Nat → Nat × Nat} {μ : Mem} {ρ : Nat → Nat} {cT : Nat → ClassId} {a : Nat} : ceE ρ cT (ceOf sh μ a) = cellE ρ cT μ a (sh a) := by
  unfold ceOf cellE
  by_cases h : (sh a).1 < 11
  · rw [if_pos h, if_pos h]
    show Sum.inr ((sh a).1, ((List.range (nf (sh a).1)).map fun k => some (fV μ (sh a).1 a k)).map (cval ρ)) = _
    rw [List.map_map]
    unfold fvals
    congr 2
    apply List.map_congr_left
    intro k _
    exact fV_val ρ μ _ a k
  · rw [if_neg h, if_neg h]
    unfold arrC
    by_cases h1 : (sh a).1 = 13
    · rw [if_pos h1, if_pos h1]; rfl
    · rw [if_neg h1, if_neg h1]
      by_cases h2 : (sh a).1 < 15
      · rw [if_pos h2, if_pos h2]; rfl
      · rw [if_neg h2, if_neg h2]; rfl
theorem ceOf_wc {N : Nat} {sh : Nat → Nat × Nat} {μ : Mem} {ρ : Nat → Nat} {cT : Nat → ClassId} : wc N (ceOf sh μ) ρ cT = wl N sh ρ cT μ := by
  unfold wc wl
  apply List.map_congr_left
  intro a _
  rw [ceOf_E]
theorem ceOf_WF {N : Nat} {sh : Nat → Nat × Nat} {μ : Mem} (hC : Closed N sh) (hD : Dyn N sh μ) (hrow : ∀ a, a < N → 15 ≤ (sh a).1 → False) : WF N (ceOf sh μ) := by
  intro a ha
  unfold ceOf
  by_cases h : (sh a).1 < 11
  · rw [if_pos h]
    intro v hv
    obtain ⟨k, hk, e⟩ := List.mem_map.mp hv
    have hk := List.mem_range.mp hk
    cases e
    have hcl := hC.2.1 a ha h k hk
    have hdy := hD a ha h k hk
    have hkd := ft_kind _ h k hk
    unfold fV
    generalize ft (sh a).1 k = z at hcl hdy hkd ⊢
    obtain ⟨z1, z2⟩ := z
    rcases hkd with e | e | e
    · cases e; trivial
    · cases e; exact (hcl rfl).1
    · cases e; exact (hdy rfl).1
  · rw [if_neg h]
    by_cases h1 : (sh a).1 = 13
    · rw [if_pos h1]; trivial
    · rw [if_neg h1]
      by_cases h2 : (sh a).1 < 15
      · rw [if_pos h2]; trivial
      · exact (hrow a ha (by omega)).elim
theorem C_toEv {d : Nat} {y : MethodName} {cc : ByteArray} {nL : Nat} {pc : Nat} {ls : List (Option V)} {st : List V} {N : Nat} {ce : Nat → CE} {sh : Nat → Nat × Nat} {μ μ' : Mem} (hC : Closed N sh) (hD : Dyn N sh μ) (hrow : ∀ a, a < N → 15 ≤ (sh a).1 → False) (hcell : ∀ (ρ : Nat → Nat) (cT : Nat → ClassId) (a : Nat), a < N → cellE ρ cT μ a (sh a) = ceE ρ cT (ce a)) (hls : LV N sh ls) (hst : SV N sh st) (k : Ev d y cc nL none pc ls st μ none μ') : EvC d y cc nL pc ls st N ce 0 0 N (ceOf sh μ') := by
  intro l R N0 ρ0 ρ cT D A p e s m args below meth c H locs cells slots fc fs al hR hF hE hA hX hN hW hB hM hS _ _ hL
  obtain ⟨rfl, rfl⟩ := hF
  have hw : wl N sh ρ cT μ = wc N ce ρ cT := by
    unfold wc wl
    apply List.map_congr_left
    intro a ha
    rw [hcell ρ cT a (List.mem_range.mp ha)]
  have hAB : AB N ρ A := fun a ha => hW.2.2.1.2 a _ (wc_get ha)
  have k1 := k l R N sh ρ cT D A p e s m args below meth c H locs cells slots al ⟨hR.1, hR.2.1, hR.2.2.1, hR.2.2.2⟩ hC hAB hX ⟨by rw [hw]; exact hW.1, hW.2.1, by rw [hw]; exact hW.2.2.1, hD⟩ hB hS hls hst hL
  intro T hT X
  obtain ⟨t, a1, o, b1, b2, ⟨c1, c2, c3, c4⟩, b4⟩ := k1 T hT X
  refine ⟨t, a1, o, b1, b2, ⟨c1, ⟨ρ, hE.1, ?_⟩, c3⟩, b4⟩
  exact ⟨by rw [ceOf_wc]; exact c2.1, c2.2.1, by rw [ceOf_wc]; exact c2.2.2.1, ceOf_WF hC c2.2.2.2 hrow⟩
