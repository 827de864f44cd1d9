/-- the two plans and the Tokens -/
theorem shC_rn {N a : Nat} : ∀ {x : CE}, shC N a x = rnC (relA N a) x
  | .inl o => by
    show (.inl (o.1, o.2.map (Option.map (shV N a))) : CE) = .inl (o.1, o.2.map (Option.map (rnV (relA N a))))
    have : shV N a = rnV (relA N a) := by
      funext v
      match v with
      | .inl _ => rfl
      | .inr (.inl _) => rfl
      | .inr (.inr _) => rfl
    rw [this]
  | .inr (t, n, .inl f) => rfl
  | .inr (t, n, .inr (.inl f)) => rfl
  | .inr (t, n, .inr (.inr f)) => rfl
theorem rn_part {P N a k : Nat} {shX : Nat → Nat × Nat} {μX : Mem} (hsh : ∀ i, i < k → shK (P + i) = shX i) (hC : Closed k shX) (hR : ∀ i, i < k → (shX i).1 < 15) (hD : ∀ i, i < k → (shX i).1 < 11 → ∀ j, j < nf (shX i).1 → (ft (shX i).1 j).1 ≠ 3) (hπ : ∀ i, i < k → πC (P + i) = relA N a i) (hi : ∀ i, i < k → iC0 (P + i) = μX.1 i) (hl : ∀ i, i < k → lC0 (P + i) = μX.2.1 i) {i : Nat} (h : i < k) : rnC πC (ceT shK μC0 (P + i)) = shC N a (ceOf shX μX i) := by
  rw [shC_rn]
  unfold ceT ceOf
  rw [hsh i h]
  by_cases q : (shX i).1 < 11
  · rw [if_pos q, if_pos q]
    show (.inl ((shX i).1, ((List.range (nf (shX i).1)).map fun k => some (fV μC0 (shX i).1 (P + i) k)).map (Option.map (rnV πC))) : CE) = .inl ((shX i).1, ((List.range (nf (shX i).1)).map fun k => some (fV μX (shX i).1 i k)).map (Option.map (rnV (relA N a))))
    rw [List.map_map, List.map_map]
    refine congrArg (fun l => (Sum.inl ((shX i).1, l) : CE)) (List.map_congr_left fun j hj => ?_)
    have hj := List.mem_range.mp hj
    show some (rnV πC (fV μC0 (shX i).1 (P + i) j)) = some (rnV (relA N a) (fV μX (shX i).1 i j))
    have kd := ft_kind _ q j hj
    have nd := hD i h q j hj
    have cl := hC.2.1 i h q j hj
    unfold fV
    generalize ft (shX i).1 j = z at kd nd cl ⊢
    obtain ⟨z1, z2, z3, z4⟩ := z
    rcases kd with e | e | e
    · cases e
      show some (vi (iC0 (P + i) j)) = some (vi (μX.1 i j))
      rw [hi i h]
    · cases e
      show some (vr z2 z3 (πC (P + i + z4))) = some (vr z2 z3 (relA N a (i + z4)))
      rw [Nat.add_assoc, hπ _ (cl rfl).1]
    · exact absurd e nd
  · rw [if_neg q, if_neg q]
    have t := hR i h
    by_cases h1 : (shX i).1 = 13
    · rw [if_pos h1, if_pos h1]
      show (.inr ((shX i).1, (shX i).2, .inr (.inl (lC0 (P + i)))) : CE) = .inr ((shX i).1, (shX i).2, .inr (.inl (μX.2.1 i)))
      rw [hl i h]
    · rw [if_neg h1, if_neg h1, if_pos t, if_pos t]
      show (.inr ((shX i).1, (shX i).2, .inl (iC0 (P + i))) : CE) = .inr ((shX i).1, (shX i).2, .inl (μX.1 i))
      rw [hi i h]
theorem clrP_l : (clrP 0 μZ).2.1 = μZ.2.1 := rfl
theorem EC_plan {i : Nat} (h : i < 19) : EC (relA 29 28 i) = shC 29 28 (ceOf shP (clrP 0 μZ) i) := by
  rw [← π_pl h, EC_of (by omega)]
  refine rn_part (k := 19) (fun i hi => ?_) shP_C (by decide +kernel) (by decide +kernel) (fun i hi => π_pl hi) (fun i hi => ?_) (fun i hi => ?_) h
  · unfold shK
    rw [if_neg (by omega), if_neg (by omega), if_neg (by omega), if_neg (by omega), if_neg (by omega), if_neg (by omega), if_neg (by omega), if_neg (by omega), if_neg (by omega), if_pos (by omega), show 214 + i - 214 = i by omega]
  · unfold iC0
    rw [if_neg (by omega), if_neg (by omega), if_neg (by omega), if_pos (by omega), show 214 + i - 214 = i by omega]
  · unfold lC0
    rw [if_neg (by omega), clrP_l]; rfl
theorem EC_rplan {i : Nat} (h : i < 19) : EC (relA 9 8 i) = shC 9 8 (ceOf shP (clrP 0 μZ) i) := by
  rw [← π_rp h, EC_of (by omega)]
  refine rn_part (k := 19) (fun i hi => ?_) shP_C (by decide +kernel) (by decide +kernel) (fun i hi => π_rp hi) (fun i hi => ?_) (fun i hi => ?_) h
  · unfold shK
    rw [if_neg (by omega), if_neg (by omega), if_neg (by omega), if_neg (by omega), if_neg (by omega), if_neg (by omega), if_neg (by omega), if_neg (by omega), if_neg (by omega), if_neg (by omega), show 233 + i - 233 = i by omega]
  · unfold iC0
    rw [if_neg (by omega), if_neg (by omega), if_neg (by omega), if_neg (by omega), show 233 + i - 233 = i by omega]
  · unfold lC0
    rw [if_neg (by omega), clrP_l]; rfl
theorem π_tok {i : Nat} (h : i < 5) : πC (3 + i) = relA 4 3 i := (by decide +kernel : ∀ i, i < 5 → πC (3 + i) = relA 4 3 i) i h
theorem EC_tok {i : Nat} (h : i < 5) : EC (relA 4 3 i) = shC 4 3 (ceOf shT μT i) := by
  rw [← π_tok h, EC_of (by omega)]
  refine rn_part (k := 5) (by decide +kernel) shT_C (by decide +kernel) (by decide +kernel) (fun i hi => π_tok hi) (fun i hi => ?_) (fun i hi => ?_) h
  · rw [i0_mid (by omega) (by omega)]; rfl
  · unfold lC0
    by_cases e : i = 1
    · rw [if_pos (by omega), e]
    · rw [if_neg (by omega)]
      unfold μT sB
      show _ = va_up μZ.2.1 1 _ i
      rw [up_ne e]; rfl
