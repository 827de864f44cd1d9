theorem dfX0 : ∀ (ρ : Nat → Nat) (j : Nat), j < 7 → defaultValue (tyX0 j) = vp_V (([none, none, none, none, some (vi 0), some (vi 0), some (vi 0)] : List (Option V)).map (cval ρ)) j := by
  intro ρ j hj
  rcases (show j = 0 ∨ j = 1 ∨ j = 2 ∨ j = 3 ∨ j = 4 ∨ j = 5 ∨ j = 6 by omega) with rfl | rfl | rfl | rfl | rfl | rfl | rfl <;> rfl
theorem dcX0 : CC 0 (.inl (0, [none, none, none, none, some (vi 0), some (vi 0), some (vi 0)])) := by
  intro v hv
  simp only [List.mem_cons, List.not_mem_nil, or_false, Option.some.injEq, reduceCtorEq, false_or, or_self] at hv
  (try subst hv)
  (try trivial)
theorem fqX0_0 : FQ RX0 0 0 (.array .int) := ⟨RX0, TX0, 7, tyX0, rfl, tyX0_ok, nmX0, ⟨rfl, rfl⟩, by decide +kernel⟩
theorem fqX0_1 : FQ RX0 0 1 (.array .int) := ⟨RX0, TX0, 7, tyX0, rfl, tyX0_ok, nmX0, ⟨rfl, rfl⟩, by decide +kernel⟩
theorem fqX0_2 : FQ RX0 0 2 (.array .int) := ⟨RX0, TX0, 7, tyX0, rfl, tyX0_ok, nmX0, ⟨rfl, rfl⟩, by decide +kernel⟩
theorem fqX0_3 : FQ RX0 0 3 (.array (.array .int)) := ⟨RX0, TX0, 7, tyX0, rfl, tyX0_ok, nmX0, ⟨rfl, rfl⟩, by decide +kernel⟩
theorem dfX1 : ∀ (ρ : Nat → Nat) (j : Nat), j < 4 → defaultValue (tyX1 j) = vp_V (([none, none, none, some (vi 0)] : List (Option V)).map (cval ρ)) j := by
  intro ρ j hj
  rcases (show j = 0 ∨ j = 1 ∨ j = 2 ∨ j = 3 by omega) with rfl | rfl | rfl | rfl <;> rfl
theorem dcX1 : CC 0 (.inl (1, [none, none, none, some (vi 0)])) := by
  intro v hv
  simp only [List.mem_cons, List.not_mem_nil, or_false, Option.some.injEq, reduceCtorEq, false_or, or_self] at hv
  (try subst hv)
  (try trivial)
theorem fqX1_0 : FQ RX1 1 0 (.array .int) := ⟨RX1, TX1, 4, tyX1, rfl, tyX1_ok, nmX1, ⟨rfl, rfl⟩, by decide +kernel⟩
theorem fqX1_1 : FQ RX1 1 1 (.array .int) := ⟨RX1, TX1, 4, tyX1, rfl, tyX1_ok, nmX1, ⟨rfl, rfl⟩, by decide +kernel⟩
theorem fqX1_2 : FQ RX1 1 2 (.array .int) := ⟨RX1, TX1, 4, tyX1, rfl, tyX1_ok, nmX1, ⟨rfl, rfl⟩, by decide +kernel⟩
theorem dfX2 : ∀ (ρ : Nat → Nat) (j : Nat), j < 3 → defaultValue (tyX2 j) = vp_V (([none, some (vi 0), some (vi 0)] : List (Option V)).map (cval ρ)) j := by
  intro ρ j hj
  rcases (show j = 0 ∨ j = 1 ∨ j = 2 by omega) with rfl | rfl | rfl <;> rfl
theorem dcX2 : CC 0 (.inl (2, [none, some (vi 0), some (vi 0)])) := by
  intro v hv
  simp only [List.mem_cons, List.not_mem_nil, or_false, Option.some.injEq, reduceCtorEq, false_or, or_self] at hv
  (try subst hv)
  (try trivial)
theorem fqX2_0 : FQ RX2 2 0 (.array (.object "RainLoom$Scene")) := ⟨RX2, TX2, 3, tyX2, rfl, tyX2_ok, nmX2, ⟨rfl, rfl⟩, by decide +kernel⟩
theorem dfX3 : ∀ (ρ : Nat → Nat) (j : Nat), j < 16 → defaultValue (tyX3 j) = vp_V (([some (vi 0), some (vi 0), some (vi 0), some (vi 0), some (vi 0), some (vi 0), some (vi 0), none, none, none, none, none, none, none, none, none] : List (Option V)).map (cval ρ)) j := by
  intro ρ j hj
  rcases (show j = 0 ∨ j = 1 ∨ j = 2 ∨ j = 3 ∨ j = 4 ∨ j = 5 ∨ j = 6 ∨ j = 7 ∨ j = 8 ∨ j = 9 ∨ j = 10 ∨ j = 11 ∨ j = 12 ∨ j = 13 ∨ j = 14 ∨ j = 15 by omega) with rfl | rfl | rfl | rfl | rfl | rfl | rfl | rfl | rfl | rfl | rfl | rfl | rfl | rfl | rfl | rfl <;> rfl
theorem dcX3 : CC 0 (.inl (3, [some (vi 0), some (vi 0), some (vi 0), some (vi 0), some (vi 0), some (vi 0), some (vi 0), none, none, none, none, none, none, none, none, none])) := by
  intro v hv
  simp only [List.mem_cons, List.not_mem_nil, or_false, Option.some.injEq, reduceCtorEq, false_or, or_self] at hv
  (try subst hv)
  (try trivial)
theorem fqX3_7 : FQ RX3 3 7 (.array .int) := ⟨RX3, TX3, 16, tyX3, rfl, tyX3_ok, nmX3, ⟨rfl, rfl⟩, by decide +kernel⟩
theorem fqX3_8 : FQ RX3 3 8 (.array .int) := ⟨RX3, TX3, 16, tyX3, rfl, tyX3_ok, nmX3, ⟨rfl, rfl⟩, by decide +kernel⟩
theorem fqX3_9 : FQ RX3 3 9 (.array .int) := ⟨RX3, TX3, 16, tyX3, rfl, tyX3_ok, nmX3, ⟨rfl, rfl⟩, by decide +kernel⟩
theorem fqX3_10 : FQ RX3 3 10 (.array .int) := ⟨RX3, TX3, 16, tyX3, rfl, tyX3_ok, nmX3, ⟨rfl, rfl⟩, by decide +kernel⟩
theorem fqX3_11 : FQ RX3 3 11 (.array .int) := ⟨RX3, TX3, 16, tyX3, rfl, tyX3_ok, nmX3, ⟨rfl, rfl⟩, by decide +kernel⟩
theorem fqX3_12 : FQ RX3 3 12 (.array .int) := ⟨RX3, TX3, 16, tyX3, rfl, tyX3_ok, nmX3, ⟨rfl, rfl⟩, by decide +kernel⟩
theorem fqX3_13 : FQ RX3 3 13 (.object "RainLoom$Law") := ⟨RX3, TX3, 16, tyX3, rfl, tyX3_ok, nmX3, ⟨rfl, rfl⟩, by decide +kernel⟩
theorem fqX3_14 : FQ RX3 3 14 (.object "RainLoom$Law") := ⟨RX3, TX3, 16, tyX3, rfl, tyX3_ok, nmX3, ⟨rfl, rfl⟩, by decide +kernel⟩
theorem fqX3_15 : FQ RX3 3 15 (.object "RainLoom$Law") := ⟨RX3, TX3, 16, tyX3, rfl, tyX3_ok, nmX3, ⟨rfl, rfl⟩, by decide +kernel⟩
theorem dfX4 : ∀ (ρ : Nat → Nat) (j : Nat), j < 10 → defaultValue (tyX4 j) = vp_V (([none, none, some (vi 0), some (vi 0), none, some (vi 0), some (vi 0), some (vi 0), some (vi 0), some (vi 0)] : List (Option V)).map (cval ρ)) j := by
  intro ρ j hj
  rcases (show j = 0 ∨ j = 1 ∨ j = 2 ∨ j = 3 ∨ j = 4 ∨ j = 5 ∨ j = 6 ∨ j = 7 ∨ j = 8 ∨ j = 9 by omega) with rfl | rfl | rfl | rfl | rfl | rfl | rfl | rfl | rfl | rfl <;> rfl
theorem dcX4 : CC 0 (.inl (4, [none, none, some (vi 0), some (vi 0), none, some (vi 0), some (vi 0), some (vi 0), some (vi 0), some (vi 0)])) := by
  intro v hv
  simp only [List.mem_cons, List.not_mem_nil, or_false, Option.some.injEq, reduceCtorEq, false_or, or_self] at hv
  (try subst hv)
  (try trivial)
theorem fqX4_0 : FQ RX4 4 0 (.object "RainLoom$Tokens") := ⟨RX4, TX4, 10, tyX4, rfl, tyX4_ok, nmX4, ⟨rfl, rfl⟩, by decide +kernel⟩
theorem fqX4_4 : FQ RX4 4 4 (.array .long) := ⟨RX4, TX4, 10, tyX4, rfl, tyX4_ok, nmX4, ⟨rfl, rfl⟩, by decide +kernel⟩
theorem dfX5 : ∀ (ρ : Nat → Nat) (j : Nat), j < 6 → defaultValue (tyX5 j) = vp_V (([some (vi 0), some (vi 0), none, none, none, none] : List (Option V)).map (cval ρ)) j := by
  intro ρ j hj
  rcases (show j = 0 ∨ j = 1 ∨ j = 2 ∨ j = 3 ∨ j = 4 ∨ j = 5 by omega) with rfl | rfl | rfl | rfl | rfl | rfl <;> rfl
theorem dcX5 : CC 0 (.inl (5, [some (vi 0), some (vi 0), none, none, none, none])) := by
  intro v hv
  simp only [List.mem_cons, List.not_mem_nil, or_false, Option.some.injEq, reduceCtorEq, false_or, or_self] at hv
  (try subst hv)
  (try trivial)
theorem fqX5_2 : FQ RX5 5 2 (.array .int) := ⟨RX5, TX5, 6, tyX5, rfl, tyX5_ok, nmX5, ⟨rfl, rfl⟩, by decide +kernel⟩
theorem fqX5_3 : FQ RX5 5 3 (.array .int) := ⟨RX5, TX5, 6, tyX5, rfl, tyX5_ok, nmX5, ⟨rfl, rfl⟩, by decide +kernel⟩
theorem fqX5_4 : FQ RX5 5 4 (.array .int) := ⟨RX5, TX5, 6, tyX5, rfl, tyX5_ok, nmX5, ⟨rfl, rfl⟩, by decide +kernel⟩
theorem fqX5_5 : FQ RX5 5 5 (.array .int) := ⟨RX5, TX5, 6, tyX5, rfl, tyX5_ok, nmX5, ⟨rfl, rfl⟩, by decide +kernel⟩
theorem dfX6 : ∀ (ρ : Nat → Nat) (j : Nat), j < 5 → defaultValue (tyX6 j) = vp_V (([none, none, none, none, some (vi 0)] : List (Option V)).map (cval ρ)) j := by
  intro ρ j hj
  rcases (show j = 0 ∨ j = 1 ∨ j = 2 ∨ j = 3 ∨ j = 4 by omega) with rfl | rfl | rfl | rfl | rfl <;> rfl
theorem dcX6 : CC 0 (.inl (6, [none, none, none, none, some (vi 0)])) := by
  intro v hv
  simp only [List.mem_cons, List.not_mem_nil, or_false, Option.some.injEq, reduceCtorEq, false_or, or_self] at hv
  (try subst hv)
  (try trivial)
theorem fqX6_0 : FQ RX6 6 0 (.array .long) := ⟨RX6, TX6, 5, tyX6, rfl, tyX6_ok, nmX6, ⟨rfl, rfl⟩, by decide +kernel⟩
theorem fqX6_1 : FQ RX6 6 1 (.array .int) := ⟨RX6, TX6, 5, tyX6, rfl, tyX6_ok, nmX6, ⟨rfl, rfl⟩, by decide +kernel⟩
theorem fqX6_2 : FQ RX6 6 2 (.array .int) := ⟨RX6, TX6, 5, tyX6, rfl, tyX6_ok, nmX6, ⟨rfl, rfl⟩, by decide +kernel⟩
theorem fqX6_3 : FQ RX6 6 3 (.array .long) := ⟨RX6, TX6, 5, tyX6, rfl, tyX6_ok, nmX6, ⟨rfl, rfl⟩, by decide +kernel⟩
theorem dfX7 : ∀ (ρ : Nat → Nat) (j : Nat), j < 6 → defaultValue (tyX7 j) = vp_V (([none, none, none, none, some (vi 0), some (vi 0)] : List (Option V)).map (cval ρ)) j := by
  intro ρ j hj
  rcases (show j = 0 ∨ j = 1 ∨ j = 2 ∨ j = 3 ∨ j = 4 ∨ j = 5 by omega) with rfl | rfl | rfl | rfl | rfl | rfl <;> rfl
theorem dcX7 : CC 0 (.inl (7, [none, none, none, none, some (vi 0), some (vi 0)])) := by
  intro v hv
  simp only [List.mem_cons, List.not_mem_nil, or_false, Option.some.injEq, reduceCtorEq, false_or, or_self] at hv
  (try subst hv)
  (try trivial)
theorem fqX7_1 : FQ RX7 7 1 (.array .int) := ⟨RX7, TX7, 6, tyX7, rfl, tyX7_ok, nmX7, ⟨rfl, rfl⟩, by decide +kernel⟩
theorem fqX7_2 : FQ RX7 7 2 (.array .int) := ⟨RX7, TX7, 6, tyX7, rfl, tyX7_ok, nmX7, ⟨rfl, rfl⟩, by decide +kernel⟩
theorem fqX7_3 : FQ RX7 7 3 (.array .int) := ⟨RX7, TX7, 6, tyX7, rfl, tyX7_ok, nmX7, ⟨rfl, rfl⟩, by decide +kernel⟩
theorem dfX8 : ∀ (ρ : Nat → Nat) (j : Nat), j < 10 → defaultValue (tyX8 j) = vp_V (([none, none, none, some (vi 0), some (vi 0), some (vi 0), none, none, some (vi 0), none] : List (Option V)).map (cval ρ)) j := by
  intro ρ j hj
  rcases (show j = 0 ∨ j = 1 ∨ j = 2 ∨ j = 3 ∨ j = 4 ∨ j = 5 ∨ j = 6 ∨ j = 7 ∨ j = 8 ∨ j = 9 by omega) with rfl | rfl | rfl | rfl | rfl | rfl | rfl | rfl | rfl | rfl <;> rfl
theorem dcX8 : CC 0 (.inl (8, [none, none, none, some (vi 0), some (vi 0), some (vi 0), none, none, some (vi 0), none])) := by
  intro v hv
  simp only [List.mem_cons, List.not_mem_nil, or_false, Option.some.injEq, reduceCtorEq, false_or, or_self] at hv
  (try subst hv)
  (try trivial)
theorem fqX8_0 : FQ RX8 8 0 (.array .int) := ⟨RX8, TX8, 10, tyX8, rfl, tyX8_ok, nmX8, ⟨rfl, rfl⟩, by decide +kernel⟩
theorem fqX8_1 : FQ RX8 8 1 (.array .int) := ⟨RX8, TX8, 10, tyX8, rfl, tyX8_ok, nmX8, ⟨rfl, rfl⟩, by decide +kernel⟩
theorem fqX8_2 : FQ RX8 8 2 (.array .int) := ⟨RX8, TX8, 10, tyX8, rfl, tyX8_ok, nmX8, ⟨rfl, rfl⟩, by decide +kernel⟩
theorem fqX8_6 : FQ RX8 8 6 (.array (.array .int)) := ⟨RX8, TX8, 10, tyX8, rfl, tyX8_ok, nmX8, ⟨rfl, rfl⟩, by decide +kernel⟩
theorem fqX8_7 : FQ RX8 8 7 (.array .int) := ⟨RX8, TX8, 10, tyX8, rfl, tyX8_ok, nmX8, ⟨rfl, rfl⟩, by decide +kernel⟩
theorem fqX8_9 : FQ RX8 8 9 (.array .int) := ⟨RX8, TX8, 10, tyX8, rfl, tyX8_ok, nmX8, ⟨rfl, rfl⟩, by decide +kernel⟩
theorem dfX9 : ∀ (ρ : Nat → Nat) (j : Nat), j < 14 → defaultValue (tyX9 j) = vp_V (([none, some (vi 0), some (vi 0), none, none, none, none, none, none, none, none, none, none, none] : List (Option V)).map (cval ρ)) j := by
  intro ρ j hj
  rcases (show j = 0 ∨ j = 1 ∨ j = 2 ∨ j = 3 ∨ j = 4 ∨ j = 5 ∨ j = 6 ∨ j = 7 ∨ j = 8 ∨ j = 9 ∨ j = 10 ∨ j = 11 ∨ j = 12 ∨ j = 13 by omega) with rfl | rfl | rfl | rfl | rfl | rfl | rfl | rfl | rfl | rfl | rfl | rfl | rfl | rfl <;> rfl
theorem dcX9 : CC 0 (.inl (9, [none, some (vi 0), some (vi 0), none, none, none, none, none, none, none, none, none, none, none])) := by
  intro v hv
  simp only [List.mem_cons, List.not_mem_nil, or_false, Option.some.injEq, reduceCtorEq, false_or, or_self] at hv
  (try subst hv)
  (try trivial)
theorem fqX9_0 : FQ RX9 9 0 (.array .byte) := ⟨RX9, TX9, 14, tyX9, rfl, tyX9_ok, nmX9, ⟨rfl, rfl⟩, by decide +kernel⟩
theorem fqX9_3 : FQ RX9 9 3 (.object "RainLoom$Reader") := ⟨RX9, TX9, 14, tyX9, rfl, tyX9_ok, nmX9, ⟨rfl, rfl⟩, by decide +kernel⟩
theorem fqX9_5 : FQ RX9 9 5 (.object "RainLoom$Weaver") := ⟨RX9, TX9, 14, tyX9, rfl, tyX9_ok, nmX9, ⟨rfl, rfl⟩, by decide +kernel⟩
theorem fqX9_6 : FQ RX9 9 6 (.object "RainLoom$Scene") := ⟨RX9, TX9, 14, tyX9, rfl, tyX9_ok, nmX9, ⟨rfl, rfl⟩, by decide +kernel⟩
theorem fqX9_7 : FQ RX9 9 7 (.object "RainLoom$Scene") := ⟨RX9, TX9, 14, tyX9, rfl, tyX9_ok, nmX9, ⟨rfl, rfl⟩, by decide +kernel⟩
theorem fqX9_8 : FQ RX9 9 8 (.object "RainLoom$Past") := ⟨RX9, TX9, 14, tyX9, rfl, tyX9_ok, nmX9, ⟨rfl, rfl⟩, by decide +kernel⟩
theorem fqX9_9 : FQ RX9 9 9 (.array (.object "RainLoom$Scene")) := ⟨RX9, TX9, 14, tyX9, rfl, tyX9_ok, nmX9, ⟨rfl, rfl⟩, by decide +kernel⟩
theorem fqX9_10 : FQ RX9 9 10 (.array .boolean) := ⟨RX9, TX9, 14, tyX9, rfl, tyX9_ok, nmX9, ⟨rfl, rfl⟩, by decide +kernel⟩
theorem fqX9_11 : FQ RX9 9 11 (.object "RainLoom$Witness") := ⟨RX9, TX9, 14, tyX9, rfl, tyX9_ok, nmX9, ⟨rfl, rfl⟩, by decide +kernel⟩
theorem fqX9_12 : FQ RX9 9 12 (.object "RainLoom$Cutter") := ⟨RX9, TX9, 14, tyX9, rfl, tyX9_ok, nmX9, ⟨rfl, rfl⟩, by decide +kernel⟩
theorem fqX9_13 : FQ RX9 9 13 (.array .int) := ⟨RX9, TX9, 14, tyX9, rfl, tyX9_ok, nmX9, ⟨rfl, rfl⟩, by decide +kernel⟩
theorem dfX10 : ∀ (ρ : Nat → Nat) (j : Nat), j < 72 → defaultValue (tyX10 j) = vp_V (([some (vi 0), none, some (vi 0), none, some (vi 0), none, none, none, none, none, some (vi 0), some (vi 0), some (vi 0), some (vi 0), some (vi 0), some (vi 0), some (vi 0), some (vi 0), some (vi 0), some (vi 0), some (vi 0), none, none, none, none, none, none, none, none, none, none, none, none, none, none, none, some (vi 0), none, none, none, none, none, some (vi 0), none, none, none, some (vi 0), none, none, some (vi 0), none, none, some (vi 0), some (vi 0), none, some (vi 0), some (vi 0), none, none, none, none, some (vi 0), some (vi 0), some (vi 0), none, some (vi 0), none, none, none, none, none, none] : List (Option V)).map (cval ρ)) j := by
  intro ρ j hj
  rcases (show j = 0 ∨ j = 1 ∨ j = 2 ∨ j = 3 ∨ j = 4 ∨ j = 5 ∨ j = 6 ∨ j = 7 ∨ j = 8 ∨ j = 9 ∨ j = 10 ∨ j = 11 ∨ j = 12 ∨ j = 13 ∨ j = 14 ∨ j = 15 ∨ j = 16 ∨ j = 17 ∨ j = 18 ∨ j = 19 ∨ j = 20 ∨ j = 21 ∨ j = 22 ∨ j = 23 ∨ j = 24 ∨ j = 25 ∨ j = 26 ∨ j = 27 ∨ j = 28 ∨ j = 29 ∨ j = 30 ∨ j = 31 ∨ j = 32 ∨ j = 33 ∨ j = 34 ∨ j = 35 ∨ j = 36 ∨ j = 37 ∨ j = 38 ∨ j = 39 ∨ j = 40 ∨ j = 41 ∨ j = 42 ∨ j = 43 ∨ j = 44 ∨ j = 45 ∨ j = 46 ∨ j = 47 ∨ j = 48 ∨ j = 49 ∨ j = 50 ∨ j = 51 ∨ j = 52 ∨ j = 53 ∨ j = 54 ∨ j = 55 ∨ j = 56 ∨ j = 57 ∨ j = 58 ∨ j = 59 ∨ j = 60 ∨ j = 61 ∨ j = 62 ∨ j = 63 ∨ j = 64 ∨ j = 65 ∨ j = 66 ∨ j = 67 ∨ j = 68 ∨ j = 69 ∨ j = 70 ∨ j = 71 by omega) with rfl | rfl | rfl | rfl | rfl | rfl | rfl | rfl | rfl | rfl | rfl | rfl | rfl | rfl | rfl | rfl | rfl | rfl | rfl | rfl | rfl | rfl | rfl | rfl | rfl | rfl | rfl | rfl | rfl | rfl | rfl | rfl | rfl | rfl | rfl | rfl | rfl | rfl | rfl | rfl | rfl | rfl | rfl | rfl | rfl | rfl | rfl | rfl | rfl | rfl | rfl | rfl | rfl | rfl | rfl | rfl | rfl | rfl | rfl | rfl | rfl | rfl | rfl | rfl | rfl | rfl | rfl | rfl | rfl | rfl | rfl | rfl <;> rfl
theorem dcX10 : CC 0 (.inl (10, [some (vi 0), none, some (vi 0), none, some (vi 0), none, none, none, none, none, some (vi 0), some (vi 0), some (vi 0), some (vi 0), some (vi 0), some (vi 0), some (vi 0), some (vi 0), some (vi 0), some (vi 0), some (vi 0), none, none, none, none, none, none, none, none, none, none, none, none, none, none, none, some (vi 0), none, none, none, none, none, some (vi 0), none, none, none, some (vi 0), none, none, some (vi 0), none, none, some (vi 0), some (vi 0), none, some (vi 0), some (vi 0), none, none, none, none, some (vi 0), some (vi 0), some (vi 0), none, some (vi 0), none, none, none, none, none, none])) := by
  intro v hv
  simp only [List.mem_cons, List.not_mem_nil, or_false, Option.some.injEq, reduceCtorEq, false_or, or_self] at hv
  (try subst hv)
  (try trivial)
theorem fqX10_1 : FQ RX10 10 1 (.array .byte) := ⟨RX10, TX10, 72, tyX10, rfl, tyX10_ok, nmX10, ⟨rfl, rfl⟩, by decide +kernel⟩
theorem fqX10_3 : FQ RX10 10 3 (.array .byte) := ⟨RX10, TX10, 72, tyX10, rfl, tyX10_ok, nmX10, ⟨rfl, rfl⟩, by decide +kernel⟩
theorem fqX10_5 : FQ RX10 10 5 (.array .int) := ⟨RX10, TX10, 72, tyX10, rfl, tyX10_ok, nmX10, ⟨rfl, rfl⟩, by decide +kernel⟩
theorem fqX10_6 : FQ RX10 10 6 (.array .int) := ⟨RX10, TX10, 72, tyX10, rfl, tyX10_ok, nmX10, ⟨rfl, rfl⟩, by decide +kernel⟩
theorem fqX10_7 : FQ RX10 10 7 (.array .int) := ⟨RX10, TX10, 72, tyX10, rfl, tyX10_ok, nmX10, ⟨rfl, rfl⟩, by decide +kernel⟩
theorem fqX10_8 : FQ RX10 10 8 (.array .long) := ⟨RX10, TX10, 72, tyX10, rfl, tyX10_ok, nmX10, ⟨rfl, rfl⟩, by decide +kernel⟩
theorem fqX10_9 : FQ RX10 10 9 (.array .long) := ⟨RX10, TX10, 72, tyX10, rfl, tyX10_ok, nmX10, ⟨rfl, rfl⟩, by decide +kernel⟩
theorem fqX10_21 : FQ RX10 10 21 (.array .long) := ⟨RX10, TX10, 72, tyX10, rfl, tyX10_ok, nmX10, ⟨rfl, rfl⟩, by decide +kernel⟩
theorem fqX10_22 : FQ RX10 10 22 (.array .int) := ⟨RX10, TX10, 72, tyX10, rfl, tyX10_ok, nmX10, ⟨rfl, rfl⟩, by decide +kernel⟩
theorem fqX10_23 : FQ RX10 10 23 (.array .int) := ⟨RX10, TX10, 72, tyX10, rfl, tyX10_ok, nmX10, ⟨rfl, rfl⟩, by decide +kernel⟩
theorem fqX10_24 : FQ RX10 10 24 (.array .int) := ⟨RX10, TX10, 72, tyX10, rfl, tyX10_ok, nmX10, ⟨rfl, rfl⟩, by decide +kernel⟩
theorem fqX10_25 : FQ RX10 10 25 (.array .int) := ⟨RX10, TX10, 72, tyX10, rfl, tyX10_ok, nmX10, ⟨rfl, rfl⟩, by decide +kernel⟩
theorem fqX10_26 : FQ RX10 10 26 (.array .int) := ⟨RX10, TX10, 72, tyX10, rfl, tyX10_ok, nmX10, ⟨rfl, rfl⟩, by decide +kernel⟩
theorem fqX10_27 : FQ RX10 10 27 (.array .int) := ⟨RX10, TX10, 72, tyX10, rfl, tyX10_ok, nmX10, ⟨rfl, rfl⟩, by decide +kernel⟩
theorem fqX10_28 : FQ RX10 10 28 (.array .int) := ⟨RX10, TX10, 72, tyX10, rfl, tyX10_ok, nmX10, ⟨rfl, rfl⟩, by decide +kernel⟩
theorem fqX10_29 : FQ RX10 10 29 (.array .int) := ⟨RX10, TX10, 72, tyX10, rfl, tyX10_ok, nmX10, ⟨rfl, rfl⟩, by decide +kernel⟩
theorem fqX10_30 : FQ RX10 10 30 (.array .int) := ⟨RX10, TX10, 72, tyX10, rfl, tyX10_ok, nmX10, ⟨rfl, rfl⟩, by decide +kernel⟩
theorem fqX10_31 : FQ RX10 10 31 (.array .int) := ⟨RX10, TX10, 72, tyX10, rfl, tyX10_ok, nmX10, ⟨rfl, rfl⟩, by decide +kernel⟩
theorem fqX10_32 : FQ RX10 10 32 (.array .int) := ⟨RX10, TX10, 72, tyX10, rfl, tyX10_ok, nmX10, ⟨rfl, rfl⟩, by decide +kernel⟩
theorem fqX10_33 : FQ RX10 10 33 (.array .int) := ⟨RX10, TX10, 72, tyX10, rfl, tyX10_ok, nmX10, ⟨rfl, rfl⟩, by decide +kernel⟩
theorem fqX10_34 : FQ RX10 10 34 (.array .int) := ⟨RX10, TX10, 72, tyX10, rfl, tyX10_ok, nmX10, ⟨rfl, rfl⟩, by decide +kernel⟩
theorem fqX10_35 : FQ RX10 10 35 (.array .int) := ⟨RX10, TX10, 72, tyX10, rfl, tyX10_ok, nmX10, ⟨rfl, rfl⟩, by decide +kernel⟩
theorem fqX10_37 : FQ RX10 10 37 (.array .boolean) := ⟨RX10, TX10, 72, tyX10, rfl, tyX10_ok, nmX10, ⟨rfl, rfl⟩, by decide +kernel⟩
theorem fqX10_38 : FQ RX10 10 38 (.array .int) := ⟨RX10, TX10, 72, tyX10, rfl, tyX10_ok, nmX10, ⟨rfl, rfl⟩, by decide +kernel⟩
theorem fqX10_39 : FQ RX10 10 39 (.array .int) := ⟨RX10, TX10, 72, tyX10, rfl, tyX10_ok, nmX10, ⟨rfl, rfl⟩, by decide +kernel⟩
theorem fqX10_40 : FQ RX10 10 40 (.array .int) := ⟨RX10, TX10, 72, tyX10, rfl, tyX10_ok, nmX10, ⟨rfl, rfl⟩, by decide +kernel⟩
theorem fqX10_41 : FQ RX10 10 41 (.array .int) := ⟨RX10, TX10, 72, tyX10, rfl, tyX10_ok, nmX10, ⟨rfl, rfl⟩, by decide +kernel⟩
theorem fqX10_43 : FQ RX10 10 43 (.array .int) := ⟨RX10, TX10, 72, tyX10, rfl, tyX10_ok, nmX10, ⟨rfl, rfl⟩, by decide +kernel⟩
theorem fqX10_44 : FQ RX10 10 44 (.array .int) := ⟨RX10, TX10, 72, tyX10, rfl, tyX10_ok, nmX10, ⟨rfl, rfl⟩, by decide +kernel⟩
theorem fqX10_45 : FQ RX10 10 45 (.array .int) := ⟨RX10, TX10, 72, tyX10, rfl, tyX10_ok, nmX10, ⟨rfl, rfl⟩, by decide +kernel⟩
theorem fqX10_47 : FQ RX10 10 47 (.array .int) := ⟨RX10, TX10, 72, tyX10, rfl, tyX10_ok, nmX10, ⟨rfl, rfl⟩, by decide +kernel⟩
theorem fqX10_48 : FQ RX10 10 48 (.array .int) := ⟨RX10, TX10, 72, tyX10, rfl, tyX10_ok, nmX10, ⟨rfl, rfl⟩, by decide +kernel⟩
theorem fqX10_50 : FQ RX10 10 50 (.array .int) := ⟨RX10, TX10, 72, tyX10, rfl, tyX10_ok, nmX10, ⟨rfl, rfl⟩, by decide +kernel⟩
theorem fqX10_51 : FQ RX10 10 51 (.array .int) := ⟨RX10, TX10, 72, tyX10, rfl, tyX10_ok, nmX10, ⟨rfl, rfl⟩, by decide +kernel⟩
theorem fqX10_54 : FQ RX10 10 54 (.array .int) := ⟨RX10, TX10, 72, tyX10, rfl, tyX10_ok, nmX10, ⟨rfl, rfl⟩, by decide +kernel⟩
theorem fqX10_57 : FQ RX10 10 57 (.array .int) := ⟨RX10, TX10, 72, tyX10, rfl, tyX10_ok, nmX10, ⟨rfl, rfl⟩, by decide +kernel⟩
theorem fqX10_58 : FQ RX10 10 58 (.array .int) := ⟨RX10, TX10, 72, tyX10, rfl, tyX10_ok, nmX10, ⟨rfl, rfl⟩, by decide +kernel⟩
theorem fqX10_59 : FQ RX10 10 59 (.array .int) := ⟨RX10, TX10, 72, tyX10, rfl, tyX10_ok, nmX10, ⟨rfl, rfl⟩, by decide +kernel⟩
theorem fqX10_60 : FQ RX10 10 60 (.array .int) := ⟨RX10, TX10, 72, tyX10, rfl, tyX10_ok, nmX10, ⟨rfl, rfl⟩, by decide +kernel⟩
theorem fqX10_64 : FQ RX10 10 64 (.array .int) := ⟨RX10, TX10, 72, tyX10, rfl, tyX10_ok, nmX10, ⟨rfl, rfl⟩, by decide +kernel⟩
theorem fqX10_66 : FQ RX10 10 66 (.array .int) := ⟨RX10, TX10, 72, tyX10, rfl, tyX10_ok, nmX10, ⟨rfl, rfl⟩, by decide +kernel⟩
theorem fqX10_67 : FQ RX10 10 67 (.array .int) := ⟨RX10, TX10, 72, tyX10, rfl, tyX10_ok, nmX10, ⟨rfl, rfl⟩, by decide +kernel⟩
theorem fqX10_68 : FQ RX10 10 68 (.array .boolean) := ⟨RX10, TX10, 72, tyX10, rfl, tyX10_ok, nmX10, ⟨rfl, rfl⟩, by decide +kernel⟩
theorem fqX10_69 : FQ RX10 10 69 (.array .int) := ⟨RX10, TX10, 72, tyX10, rfl, tyX10_ok, nmX10, ⟨rfl, rfl⟩, by decide +kernel⟩
theorem fqX10_70 : FQ RX10 10 70 (.array .boolean) := ⟨RX10, TX10, 72, tyX10, rfl, tyX10_ok, nmX10, ⟨rfl, rfl⟩, by decide +kernel⟩
theorem fqX10_71 : FQ RX10 10 71 (.array .int) := ⟨RX10, TX10, 72, tyX10, rfl, tyX10_ok, nmX10, ⟨rfl, rfl⟩, by decide +kernel⟩
theorem mn_lt {N n K tag b : Nat} {ce : Nat → CE} (h : b < N) : mnCe N n K tag ce b = ce b := by
  unfold mnCe
  rw [if_neg (by omega), if_neg (by omega)]
set_option maxRecDepth 200000 in
theorem ilX0 : IL yX0_init cX0_init 1 0 := ⟨rfl, ts2 173 rfl rfl, ts1 15 rfl rfl, ts2 174 rfl rfl, by decide +kernel, by decide⟩
set_option maxRecDepth 200000 in
theorem ilX1 : IL yX1_init cX1_init 1 0 := ⟨rfl, ts1 124 rfl rfl, ts1 9 rfl rfl, ts1 125 rfl rfl, by decide +kernel, by decide⟩
set_option maxRecDepth 200000 in
theorem ilX2 : IL yX2_init cX2_init 2 0 := ⟨rfl, ts2 110 rfl rfl, ts1 13 rfl rfl, ts2 111 rfl rfl, by decide +kernel, by decide⟩
set_option maxRecDepth 200000 in
theorem ilX3 : IL yX3_init cX3_init 1 0 := ⟨rfl, ts1 118 rfl rfl, ts1 8 rfl rfl, ts1 119 rfl rfl, by decide +kernel, by decide⟩
set_option maxRecDepth 200000 in
theorem ilX4 : IL yX4_init cX4_init 1 0 := ⟨rfl, ts1 31 rfl rfl, ts1 2 rfl rfl, ts1 32 rfl rfl, by decide +kernel, by decide⟩
set_option maxRecDepth 200000 in
theorem ilX5 : IL yX5_init cX5_init 1 0 := ⟨rfl, ts2 75 rfl rfl, ts1 12 rfl rfl, ts2 76 rfl rfl, by decide +kernel, by decide⟩
set_option maxRecDepth 200000 in
theorem ilX6 : IL yX6_init cX6_init 6 0 := ⟨rfl, ts1 37 rfl rfl, ts1 3 rfl rfl, ts1 38 rfl rfl, by decide +kernel, by decide⟩
set_option maxRecDepth 200000 in
theorem ilX7 : IL yX7_init cX7_init 2 1 := ⟨rfl, ts2 48 rfl rfl, ts1 11 rfl rfl, ts2 49 rfl rfl, by decide +kernel, by decide⟩
set_option maxRecDepth 200000 in
theorem ilX8 : IL yX8_init cX8_init 1 0 := ⟨rfl, ts2 130 rfl rfl, ts1 14 rfl rfl, ts2 131 rfl rfl, by decide +kernel, by decide⟩
set_option maxRecDepth 200000 in
theorem ilX9 : IL yX9_init cX9_init 2 0 := ⟨rfl, ts1 23 rfl rfl, ts1 1 rfl rfl, ts1 24 rfl rfl, by decide +kernel, by decide⟩
set_option maxRecDepth 200000 in
theorem ilX10 : IL yX10_init cX10_init 1 0 := ⟨rfl, ts5 187 rfl rfl, ts1 16 rfl rfl, ts5 188 rfl rfl, by decide +kernel, by decide⟩
def ceX1 (N a : Nat) (ce : Nat → CE) : Nat → CE := (va_up (va_up (va_up (va_up (va_up (va_up (va_up ce (N) (.inr (11, 512, .inl (fun _ => 0)))) (a) (.inl (1, [some (vr 11 512 (N)), none, none, some (vi 0)]))) (N + 1) (.inr (11, 32, .inl (fun _ => 0)))) (a) (.inl (1, [some (vr 11 512 (N)), some (vr 11 32 (N + 1)), none, some (vi 0)]))) (N + 2) (.inr (11, 9, .inl (fun _ => 0)))) (a) (.inl (1, [some (vr 11 512 (N)), some (vr 11 32 (N + 1)), some (vr 11 9 (N + 2)), some (vi 0)]))) (a) (.inl (1, [some (vr 11 512 (N)), some (vr 11 32 (N + 1)), some (vr 11 9 (N + 2)), some (vi 0)])))
theorem ceX1_a {N a : Nat} {ce : Nat → CE} (ha : a < N) : ceX1 N a ce a = .inl (1, [some (vr 11 512 (N)), some (vr 11 32 (N + 1)), some (vr 11 9 (N + 2)), some (vi 0)]) := by
  unfold ceX1
  rw [up_same]
theorem ceX1_old {N a b : Nat} {ce : Nat → CE} (hb : b < N) (hne : b ≠ a) : ceX1 N a ce b = ce b := by
  unfold ceX1
  rw [up_ne (by omega), up_ne (by omega), up_ne (by omega), up_ne (by omega), up_ne (by omega), up_ne (by omega), up_ne (by omega)]
theorem ceX1_n0 {N a : Nat} {ce : Nat → CE} (ha : a < N) : ceX1 N a ce (N) = .inr (11, 512, .inl (fun _ => 0)) := by
  unfold ceX1
  rw [up_ne (by omega), up_ne (by omega), up_ne (by omega), up_ne (by omega), up_ne (by omega), up_ne (by omega), up_same]
theorem ceX1_n1 {N a : Nat} {ce : Nat → CE} (ha : a < N) : ceX1 N a ce (N + 1) = .inr (11, 32, .inl (fun _ => 0)) := by
  unfold ceX1
  rw [up_ne (by omega), up_ne (by omega), up_ne (by omega), up_ne (by omega), up_same]
theorem ceX1_n2 {N a : Nat} {ce : Nat → CE} (ha : a < N) : ceX1 N a ce (N + 2) = .inr (11, 9, .inl (fun _ => 0)) := by
  unfold ceX1
  rw [up_ne (by omega), up_ne (by omega), up_same]
set_option maxHeartbeats 4000000 in
set_option maxRecDepth 100000 in
theorem X1_init_ok {d N a : Nat} {ce : Nat → CE} (ha : a < N) (h0 : ce a = .inl (1, [none, none, none, some (vi 0)])) (hN : N + 3 < 900000) : MeC d yX1_init cX1_init 1 [vr 1 0 a] N ce 3 553 (N + 3) (ceX1 N a ce) := by
  refine MeC_of [some (vr 1 0 a)] rfl (Nat.le_of_ble_eq_true rfl) (by decide) rfl ?_
  refine C_aload_n dX1_init_0 rfl ?_
  refine C_objInit (ts1 126 rfl rfl) (ts1 26 rfl rfl) (ts1 27 rfl rfl) dX1_init_1 (Nat.le_of_ble_eq_true rfl) ?_
  refine C_aload_n dX1_init_4 rfl ?_
  refine C_sipush 512 dX1_init_5 (by decide) ?_
  refine C_newi (kc := 2) (ks := 41) 512 (ts1 114 rfl rfl) (by decide) (by decide) (by decide) dX1_init_8 (by omega) ?_
  refine C_putF (fs := [none, none, none, some (vi 0)]) (.array .int) flX1_7 fqX1_0 (by rw [up_ne (by omega), h0]; try rfl) (Nat.le_of_ble_eq_true rfl) (fun _ => rfl) (fun _ => rfl) dX1_init_10 ?_
  refine C_aload_n dX1_init_13 rfl ?_
  refine C_bipush 32 dX1_init_14 (by decide) ?_
  refine C_newi (kc := 1) (ks := 9) 32 (ts1 114 rfl rfl) (by decide) (by decide) (by decide) dX1_init_16 (by omega) ?_
  refine C_putF (fs := [some (vr 11 512 (N)), none, none, some (vi 0)]) (.array .int) flX1_13 fqX1_1 (by rw [up_ne (by omega), up_same]; try rfl) (Nat.le_of_ble_eq_true rfl) (fun _ => rfl) (fun _ => rfl) dX1_init_18 ?_
  refine C_aload_n dX1_init_21 rfl ?_
  refine C_bipush 9 dX1_init_22 (by decide) ?_
  refine C_newi (kc := 0) (ks := 0) 9 (ts1 114 rfl rfl) (by decide) (by decide) (by decide) dX1_init_24 (by omega) ?_
  refine C_putF (fs := [some (vr 11 512 (N)), some (vr 11 32 (N + 1)), none, some (vi 0)]) (.array .int) flX1_16 fqX1_2 (by rw [up_ne (by omega), up_same]; try rfl) (Nat.le_of_ble_eq_true rfl) (fun _ => rfl) (fun _ => rfl) dX1_init_26 ?_
  refine C_aload_n dX1_init_29 rfl ?_
  refine C_iconst 0 dX1_init_30 (by decide) ?_
  refine C_put (fs := [some (vr 11 512 (N)), some (vr 11 32 (N + 1)), some (vr 11 9 (N + 2)), some (vi 0)]) .int flX1_19 fpX1_3 (by rw [up_same]; try rfl) (Nat.le_of_ble_eq_true rfl) (fun _ => rfl) (fun _ => rfl) dX1_init_31 ?_
  exact C_ret dX1_init_34
def ceX5 (N a : Nat) (ce : Nat → CE) : Nat → CE := (va_up (va_up (va_up (va_up (va_up (va_up (va_up (va_up (va_up (va_up ce (a) (.inl (5, [some (vi 0), some (vi 0), none, none, none, none]))) (a) (.inl (5, [some (vi 0), some (vi 0), none, none, none, none]))) (N) (.inr (11, 48, .inl (fun _ => 0)))) (a) (.inl (5, [some (vi 0), some (vi 0), some (vr 11 48 (N)), none, none, none]))) (N + 1) (.inr (11, 32, .inl (fun _ => 0)))) (a) (.inl (5, [some (vi 0), some (vi 0), some (vr 11 48 (N)), some (vr 11 32 (N + 1)), none, none]))) (N + 2) (.inr (11, 6, .inl (fun _ => 0)))) (a) (.inl (5, [some (vi 0), some (vi 0), some (vr 11 48 (N)), some (vr 11 32 (N + 1)), some (vr 11 6 (N + 2)), none]))) (N + 3) (.inr (11, 6, .inl (fun _ => 0)))) (a) (.inl (5, [some (vi 0), some (vi 0), some (vr 11 48 (N)), some (vr 11 32 (N + 1)), some (vr 11 6 (N + 2)), some (vr 11 6 (N + 3))])))
theorem ceX5_a {N a : Nat} {ce : Nat → CE} (ha : a < N) : ceX5 N a ce a = .inl (5, [some (vi 0), some (vi 0), some (vr 11 48 (N)), some (vr 11 32 (N + 1)), some (vr 11 6 (N + 2)), some (vr 11 6 (N + 3))]) := by
  unfold ceX5
  rw [up_same]
theorem ceX5_old {N a b : Nat} {ce : Nat → CE} (hb : b < N) (hne : b ≠ a) : ceX5 N a ce b = ce b := by
  unfold ceX5
  rw [up_ne (by omega), up_ne (by omega), up_ne (by omega), up_ne (by omega), up_ne (by omega), up_ne (by omega), up_ne (by omega), up_ne (by omega), up_ne (by omega), up_ne (by omega)]
theorem ceX5_n0 {N a : Nat} {ce : Nat → CE} (ha : a < N) : ceX5 N a ce (N) = .inr (11, 48, .inl (fun _ => 0)) := by
  unfold ceX5
  rw [up_ne (by omega), up_ne (by omega), up_ne (by omega), up_ne (by omega), up_ne (by omega), up_ne (by omega), up_ne (by omega), up_same]
theorem ceX5_n1 {N a : Nat} {ce : Nat → CE} (ha : a < N) : ceX5 N a ce (N + 1) = .inr (11, 32, .inl (fun _ => 0)) := by
  unfold ceX5
  rw [up_ne (by omega), up_ne (by omega), up_ne (by omega), up_ne (by omega), up_ne (by omega), up_same]
theorem ceX5_n2 {N a : Nat} {ce : Nat → CE} (ha : a < N) : ceX5 N a ce (N + 2) = .inr (11, 6, .inl (fun _ => 0)) := by
  unfold ceX5
  rw [up_ne (by omega), up_ne (by omega), up_ne (by omega), up_same]
theorem ceX5_n3 {N a : Nat} {ce : Nat → CE} (ha : a < N) : ceX5 N a ce (N + 3) = .inr (11, 6, .inl (fun _ => 0)) := by
  unfold ceX5
  rw [up_ne (by omega), up_same]
set_option maxHeartbeats 4000000 in
set_option maxRecDepth 100000 in
theorem X5_init_ok {d N a : Nat} {ce : Nat → CE} (ha : a < N) (h0 : ce a = .inl (5, [some (vi 0), some (vi 0), none, none, none, none])) (hN : N + 4 < 900000) : MeC d yX5_init cX5_init 1 [vr 5 0 a] N ce 4 92 (N + 4) (ceX5 N a ce) := by
  refine MeC_of [some (vr 5 0 a)] rfl (Nat.le_of_ble_eq_true rfl) (by decide) rfl ?_
  refine C_aload_n dX5_init_0 rfl ?_
  refine C_objInit (ts2 77 rfl rfl) (ts1 26 rfl rfl) (ts1 27 rfl rfl) dX5_init_1 (Nat.le_of_ble_eq_true rfl) ?_
  refine C_aload_n dX5_init_4 rfl ?_
  refine C_iconst 0 dX5_init_5 (by decide) ?_
  refine C_put (fs := [some (vi 0), some (vi 0), none, none, none, none]) .int flX5_9 fpX5_0 (h0) (Nat.le_of_ble_eq_true rfl) (fun _ => rfl) (fun _ => rfl) dX5_init_6 ?_
  refine C_aload_n dX5_init_9 rfl ?_
  refine C_iconst 0 dX5_init_10 (by decide) ?_
  refine C_put (fs := [some (vi 0), some (vi 0), none, none, none, none]) .int flX5_15 fpX5_1 (by rw [up_same]; try rfl) (Nat.le_of_ble_eq_true rfl) (fun _ => rfl) (fun _ => rfl) dX5_init_11 ?_
  refine C_aload_n dX5_init_14 rfl ?_
  refine C_bipush 48 dX5_init_15 (by decide) ?_
  refine C_newi (kc := 3) (ks := 44) 48 (ts1 114 rfl rfl) (by decide) (by decide) (by decide) dX5_init_17 (by omega) ?_
  refine C_putF (fs := [some (vi 0), some (vi 0), none, none, none, none]) (.array .int) flX5_18 fqX5_2 (by rw [up_ne (by omega), up_same]; try rfl) (Nat.le_of_ble_eq_true rfl) (fun _ => rfl) (fun _ => rfl) dX5_init_19 ?_
  refine C_aload_n dX5_init_22 rfl ?_
  refine C_bipush 32 dX5_init_23 (by decide) ?_
  refine C_newi (kc := 2) (ks := 12) 32 (ts1 114 rfl rfl) (by decide) (by decide) (by decide) dX5_init_25 (by omega) ?_
  refine C_putF (fs := [some (vi 0), some (vi 0), some (vr 11 48 (N)), none, none, none]) (.array .int) flX5_22 fqX5_3 (by rw [up_ne (by omega), up_same]; try rfl) (Nat.le_of_ble_eq_true rfl) (fun _ => rfl) (fun _ => rfl) dX5_init_27 ?_
  refine C_aload_n dX5_init_30 rfl ?_
  refine C_bipush 6 dX5_init_31 (by decide) ?_
  refine C_newi (kc := 1) (ks := 6) 6 (ts1 114 rfl rfl) (by decide) (by decide) (by decide) dX5_init_33 (by omega) ?_
  refine C_putF (fs := [some (vi 0), some (vi 0), some (vr 11 48 (N)), some (vr 11 32 (N + 1)), none, none]) (.array .int) flX5_25 fqX5_4 (by rw [up_ne (by omega), up_same]; try rfl) (Nat.le_of_ble_eq_true rfl) (fun _ => rfl) (fun _ => rfl) dX5_init_35 ?_
  refine C_aload_n dX5_init_38 rfl ?_
  refine C_bipush 6 dX5_init_39 (by decide) ?_
  refine C_newi (kc := 0) (ks := 0) 6 (ts1 114 rfl rfl) (by decide) (by decide) (by decide) dX5_init_41 (by omega) ?_
  refine C_putF (fs := [some (vi 0), some (vi 0), some (vr 11 48 (N)), some (vr 11 32 (N + 1)), some (vr 11 6 (N + 2)), none]) (.array .int) flX5_28 fqX5_5 (by rw [up_ne (by omega), up_same]; try rfl) (Nat.le_of_ble_eq_true rfl) (fun _ => rfl) (fun _ => rfl) dX5_init_43 ?_
  exact C_ret dX5_init_46
def ceX7 (N a p : Nat) (ce : Nat → CE) : Nat → CE := (va_up (va_up (va_up (va_up (va_up (va_up (va_up (va_up (va_up ce (N) (.inr (11, 2048, .inl (fun _ => 0)))) (a) (.inl (7, [none, some (vr 11 2048 (N)), none, none, some (vi 0), some (vi 0)]))) (N + 1) (.inr (11, 2048, .inl (fun _ => 0)))) (a) (.inl (7, [none, some (vr 11 2048 (N)), some (vr 11 2048 (N + 1)), none, some (vi 0), some (vi 0)]))) (N + 2) (.inr (11, 48, .inl (fun _ => 0)))) (a) (.inl (7, [none, some (vr 11 2048 (N)), some (vr 11 2048 (N + 1)), some (vr 11 48 (N + 2)), some (vi 0), some (vi 0)]))) (a) (.inl (7, [none, some (vr 11 2048 (N)), some (vr 11 2048 (N + 1)), some (vr 11 48 (N + 2)), some (vi 0), some (vi 0)]))) (a) (.inl (7, [none, some (vr 11 2048 (N)), some (vr 11 2048 (N + 1)), some (vr 11 48 (N + 2)), some (vi 0), some (vi 0)]))) (a) (.inl (7, [some (vr 3 0 p), some (vr 11 2048 (N)), some (vr 11 2048 (N + 1)), some (vr 11 48 (N + 2)), some (vi 0), some (vi 0)])))
theorem ceX7_a {N a p : Nat} {ce : Nat → CE} (ha : a < N) : ceX7 N a p ce a = .inl (7, [some (vr 3 0 p), some (vr 11 2048 (N)), some (vr 11 2048 (N + 1)), some (vr 11 48 (N + 2)), some (vi 0), some (vi 0)]) := by
  unfold ceX7
  rw [up_same]
theorem ceX7_old {N a b p : Nat} {ce : Nat → CE} (hb : b < N) (hne : b ≠ a) : ceX7 N a p ce b = ce b := by
  unfold ceX7
  rw [up_ne (by omega), up_ne (by omega), up_ne (by omega), up_ne (by omega), up_ne (by omega), up_ne (by omega), up_ne (by omega), up_ne (by omega), up_ne (by omega)]
theorem ceX7_n0 {N a p : Nat} {ce : Nat → CE} (ha : a < N) : ceX7 N a p ce (N) = .inr (11, 2048, .inl (fun _ => 0)) := by
  unfold ceX7
  rw [up_ne (by omega), up_ne (by omega), up_ne (by omega), up_ne (by omega), up_ne (by omega), up_ne (by omega), up_ne (by omega), up_ne (by omega), up_same]
theorem ceX7_n1 {N a p : Nat} {ce : Nat → CE} (ha : a < N) : ceX7 N a p ce (N + 1) = .inr (11, 2048, .inl (fun _ => 0)) := by
  unfold ceX7
  rw [up_ne (by omega), up_ne (by omega), up_ne (by omega), up_ne (by omega), up_ne (by omega), up_ne (by omega), up_same]
theorem ceX7_n2 {N a p : Nat} {ce : Nat → CE} (ha : a < N) : ceX7 N a p ce (N + 2) = .inr (11, 48, .inl (fun _ => 0)) := by
  unfold ceX7
  rw [up_ne (by omega), up_ne (by omega), up_ne (by omega), up_ne (by omega), up_same]
set_option maxHeartbeats 4000000 in
set_option maxRecDepth 100000 in
theorem X7_init_ok {d N a p : Nat} {ce : Nat → CE} (ha : a < N) (h0 : ce a = .inl (7, [none, none, none, none, some (vi 0), some (vi 0)])) (hN : N + 3 < 900000) : MeC d yX7_init cX7_init 2 [vr 7 0 a, vr 3 0 p] N ce 3 4144 (N + 3) (ceX7 N a p ce) := by
  refine MeC_of [some (vr 7 0 a), some (vr 3 0 p)] rfl (Nat.le_of_ble_eq_true rfl) (by decide) rfl ?_
  refine C_aload_n dX7_init_0 rfl ?_
  refine C_objInit (ts2 50 rfl rfl) (ts1 26 rfl rfl) (ts1 27 rfl rfl) dX7_init_1 (Nat.le_of_ble_eq_true rfl) ?_
  refine C_aload_n dX7_init_4 rfl ?_
  refine C_sipush 2048 dX7_init_5 (by decide) ?_
  refine C_newi (kc := 2) (ks := 2096) 2048 (ts1 114 rfl rfl) (by decide) (by decide) (by decide) dX7_init_8 (by omega) ?_
  refine C_putF (fs := [none, none, none, none, some (vi 0), some (vi 0)]) (.array .int) flX7_11 fqX7_1 (by rw [up_ne (by omega), h0]; try rfl) (Nat.le_of_ble_eq_true rfl) (fun _ => rfl) (fun _ => rfl) dX7_init_10 ?_
  refine C_aload_n dX7_init_13 rfl ?_
  refine C_sipush 2048 dX7_init_14 (by decide) ?_
  refine C_newi (kc := 1) (ks := 48) 2048 (ts1 114 rfl rfl) (by decide) (by decide) (by decide) dX7_init_17 (by omega) ?_
  refine C_putF (fs := [none, some (vr 11 2048 (N)), none, none, some (vi 0), some (vi 0)]) (.array .int) flX7_15 fqX7_2 (by rw [up_ne (by omega), up_same]; try rfl) (Nat.le_of_ble_eq_true rfl) (fun _ => rfl) (fun _ => rfl) dX7_init_19 ?_
  refine C_aload_n dX7_init_22 rfl ?_
  refine C_bipush 48 dX7_init_23 (by decide) ?_
  refine C_newi (kc := 0) (ks := 0) 48 (ts1 114 rfl rfl) (by decide) (by decide) (by decide) dX7_init_25 (by omega) ?_
  refine C_putF (fs := [none, some (vr 11 2048 (N)), some (vr 11 2048 (N + 1)), none, some (vi 0), some (vi 0)]) (.array .int) flX7_18 fqX7_3 (by rw [up_ne (by omega), up_same]; try rfl) (Nat.le_of_ble_eq_true rfl) (fun _ => rfl) (fun _ => rfl) dX7_init_27 ?_
  refine C_aload_n dX7_init_30 rfl ?_
  refine C_iconst 0 dX7_init_31 (by decide) ?_
  refine C_put (fs := [none, some (vr 11 2048 (N)), some (vr 11 2048 (N + 1)), some (vr 11 48 (N + 2)), some (vi 0), some (vi 0)]) .int flX7_21 fpX7_4 (by rw [up_same]; try rfl) (Nat.le_of_ble_eq_true rfl) (fun _ => rfl) (fun _ => rfl) dX7_init_32 ?_
  refine C_aload_n dX7_init_35 rfl ?_
  refine C_iconst 0 dX7_init_36 (by decide) ?_
  refine C_put (fs := [none, some (vr 11 2048 (N)), some (vr 11 2048 (N + 1)), some (vr 11 48 (N + 2)), some (vi 0), some (vi 0)]) .boolean flX7_25 fpX7_5 (by rw [up_same]; try rfl) (Nat.le_of_ble_eq_true rfl) (fun _ => rfl) (fun _ => rfl) dX7_init_37 ?_
  refine C_aload_n dX7_init_40 rfl ?_
  refine C_aload_n dX7_init_41 rfl ?_
  refine C_put (fs := [none, some (vr 11 2048 (N)), some (vr 11 2048 (N + 1)), some (vr 11 48 (N + 2)), some (vi 0), some (vi 0)]) (.object "RainLoom$Plan") flX7_29 fpX7_0 (by rw [up_same]; try rfl) (Nat.le_of_ble_eq_true rfl) (fun _ => rfl) (fun _ => rfl) dX7_init_42 ?_
  exact C_ret dX7_init_45
def ceX8 (N a : Nat) (ce : Nat → CE) : Nat → CE := (va_up (va_up (va_up (va_up (va_up (va_up (mnCe (N + 3) 4 48 16 (va_up (va_up (va_up (va_up (va_up (va_up (va_up (va_up (va_up ce (N) (.inr (11, 20, .inl (fun _ => 0)))) (a) (.inl (8, [some (vr 11 20 (N)), none, none, some (vi 0), some (vi 0), some (vi 0), none, none, some (vi 0), none]))) (N + 1) (.inr (11, 20, .inl (fun _ => 0)))) (a) (.inl (8, [some (vr 11 20 (N)), some (vr 11 20 (N + 1)), none, some (vi 0), some (vi 0), some (vi 0), none, none, some (vi 0), none]))) (N + 2) (.inr (11, 20, .inl (fun _ => 0)))) (a) (.inl (8, [some (vr 11 20 (N)), some (vr 11 20 (N + 1)), some (vr 11 20 (N + 2)), some (vi 0), some (vi 0), some (vi 0), none, none, some (vi 0), none]))) (a) (.inl (8, [some (vr 11 20 (N)), some (vr 11 20 (N + 1)), some (vr 11 20 (N + 2)), some (vi 0), some (vi 0), some (vi 0), none, none, some (vi 0), none]))) (a) (.inl (8, [some (vr 11 20 (N)), some (vr 11 20 (N + 1)), some (vr 11 20 (N + 2)), some (vi 0), some (vi 0), some (vi 0), none, none, some (vi 0), none]))) (a) (.inl (8, [some (vr 11 20 (N)), some (vr 11 20 (N + 1)), some (vr 11 20 (N + 2)), some (vi 0), some (vi 0), some (vi 0), none, none, some (vi 0), none])))) (a) (.inl (8, [some (vr 11 20 (N)), some (vr 11 20 (N + 1)), some (vr 11 20 (N + 2)), some (vi 0), some (vi 0), some (vi 0), some (vr 16 4 (N + 3)), none, some (vi 0), none]))) (N + 8) (.inr (11, 192, .inl (fun _ => 0)))) (a) (.inl (8, [some (vr 11 20 (N)), some (vr 11 20 (N + 1)), some (vr 11 20 (N + 2)), some (vi 0), some (vi 0), some (vi 0), some (vr 16 4 (N + 3)), some (vr 11 192 (N + 8)), some (vi 0), none]))) (a) (.inl (8, [some (vr 11 20 (N)), some (vr 11 20 (N + 1)), some (vr 11 20 (N + 2)), some (vi 0), some (vi 0), some (vi 0), some (vr 16 4 (N + 3)), some (vr 11 192 (N + 8)), some (vi 0), none]))) (N + 9) (.inr (11, 10, .inl (fun _ => 0)))) (a) (.inl (8, [some (vr 11 20 (N)), some (vr 11 20 (N + 1)), some (vr 11 20 (N + 2)), some (vi 0), some (vi 0), some (vi 0), some (vr 16 4 (N + 3)), some (vr 11 192 (N + 8)), some (vi 0), some (vr 11 10 (N + 9))])))
theorem ceX8_a {N a : Nat} {ce : Nat → CE} (ha : a < N) : ceX8 N a ce a = .inl (8, [some (vr 11 20 (N)), some (vr 11 20 (N + 1)), some (vr 11 20 (N + 2)), some (vi 0), some (vi 0), some (vi 0), some (vr 16 4 (N + 3)), some (vr 11 192 (N + 8)), some (vi 0), some (vr 11 10 (N + 9))]) := by
  unfold ceX8
  rw [up_same]
theorem ceX8_old {N a b : Nat} {ce : Nat → CE} (hb : b < N) (hne : b ≠ a) : ceX8 N a ce b = ce b := by
  unfold ceX8
  rw [up_ne (by omega), up_ne (by omega), up_ne (by omega), up_ne (by omega), up_ne (by omega), up_ne (by omega), mn_lt (by omega), up_ne (by omega), up_ne (by omega), up_ne (by omega), up_ne (by omega), up_ne (by omega), up_ne (by omega), up_ne (by omega), up_ne (by omega), up_ne (by omega)]
theorem ceX8_n0 {N a : Nat} {ce : Nat → CE} (ha : a < N) : ceX8 N a ce (N) = .inr (11, 20, .inl (fun _ => 0)) := by
  unfold ceX8
  rw [up_ne (by omega), up_ne (by omega), up_ne (by omega), up_ne (by omega), up_ne (by omega), up_ne (by omega), mn_lt (by omega), up_ne (by omega), up_ne (by omega), up_ne (by omega), up_ne (by omega), up_ne (by omega), up_ne (by omega), up_ne (by omega), up_ne (by omega), up_same]
theorem ceX8_n1 {N a : Nat} {ce : Nat → CE} (ha : a < N) : ceX8 N a ce (N + 1) = .inr (11, 20, .inl (fun _ => 0)) := by
  unfold ceX8
  rw [up_ne (by omega), up_ne (by omega), up_ne (by omega), up_ne (by omega), up_ne (by omega), up_ne (by omega), mn_lt (by omega), up_ne (by omega), up_ne (by omega), up_ne (by omega), up_ne (by omega), up_ne (by omega), up_ne (by omega), up_same]
theorem ceX8_n2 {N a : Nat} {ce : Nat → CE} (ha : a < N) : ceX8 N a ce (N + 2) = .inr (11, 20, .inl (fun _ => 0)) := by
  unfold ceX8
  rw [up_ne (by omega), up_ne (by omega), up_ne (by omega), up_ne (by omega), up_ne (by omega), up_ne (by omega), mn_lt (by omega), up_ne (by omega), up_ne (by omega), up_ne (by omega), up_ne (by omega), up_same]
theorem ceX8_n8 {N a : Nat} {ce : Nat → CE} (ha : a < N) : ceX8 N a ce (N + 8) = .inr (11, 192, .inl (fun _ => 0)) := by
  unfold ceX8
  rw [up_ne (by omega), up_ne (by omega), up_ne (by omega), up_ne (by omega), up_same]
theorem ceX8_n9 {N a : Nat} {ce : Nat → CE} (ha : a < N) : ceX8 N a ce (N + 9) = .inr (11, 10, .inl (fun _ => 0)) := by
  unfold ceX8
  rw [up_ne (by omega), up_same]
set_option maxHeartbeats 4000000 in
set_option maxRecDepth 100000 in
theorem X8_init_ok {d N a : Nat} {ce : Nat → CE} (ha : a < N) (h0 : ce a = .inl (8, [none, none, none, some (vi 0), some (vi 0), some (vi 0), none, none, some (vi 0), none])) (hN : N + 10 < 900000) : MeC d yX8_init cX8_init 1 [vr 8 0 a] N ce 10 458 (N + 10) (ceX8 N a ce) := by
  refine MeC_of [some (vr 8 0 a)] rfl (Nat.le_of_ble_eq_true rfl) (by decide) rfl ?_
  refine C_aload_n dX8_init_0 rfl ?_
  refine C_objInit (ts2 132 rfl rfl) (ts1 26 rfl rfl) (ts1 27 rfl rfl) dX8_init_1 (Nat.le_of_ble_eq_true rfl) ?_
  refine C_aload_n dX8_init_4 rfl ?_
  refine C_bipush 20 dX8_init_5 (by decide) ?_
  refine C_newi (kc := 9) (ks := 438) 20 (ts1 114 rfl rfl) (by decide) (by decide) (by decide) dX8_init_7 (by omega) ?_
  refine C_putF (fs := [none, none, none, some (vi 0), some (vi 0), some (vi 0), none, none, some (vi 0), none]) (.array .int) flX8_11 fqX8_0 (by rw [up_ne (by omega), h0]; try rfl) (Nat.le_of_ble_eq_true rfl) (fun _ => rfl) (fun _ => rfl) dX8_init_9 ?_
  refine C_aload_n dX8_init_12 rfl ?_
  refine C_bipush 20 dX8_init_13 (by decide) ?_
  refine C_newi (kc := 8) (ks := 418) 20 (ts1 114 rfl rfl) (by decide) (by decide) (by decide) dX8_init_15 (by omega) ?_
  refine C_putF (fs := [some (vr 11 20 (N)), none, none, some (vi 0), some (vi 0), some (vi 0), none, none, some (vi 0), none]) (.array .int) flX8_15 fqX8_1 (by rw [up_ne (by omega), up_same]; try rfl) (Nat.le_of_ble_eq_true rfl) (fun _ => rfl) (fun _ => rfl) dX8_init_17 ?_
  refine C_aload_n dX8_init_20 rfl ?_
  refine C_bipush 20 dX8_init_21 (by decide) ?_
  refine C_newi (kc := 7) (ks := 398) 20 (ts1 114 rfl rfl) (by decide) (by decide) (by decide) dX8_init_23 (by omega) ?_
  refine C_putF (fs := [some (vr 11 20 (N)), some (vr 11 20 (N + 1)), none, some (vi 0), some (vi 0), some (vi 0), none, none, some (vi 0), none]) (.array .int) flX8_18 fqX8_2 (by rw [up_ne (by omega), up_same]; try rfl) (Nat.le_of_ble_eq_true rfl) (fun _ => rfl) (fun _ => rfl) dX8_init_25 ?_
  refine C_aload_n dX8_init_28 rfl ?_
  refine C_iconst 0 dX8_init_29 (by decide) ?_
  refine C_put (fs := [some (vr 11 20 (N)), some (vr 11 20 (N + 1)), some (vr 11 20 (N + 2)), some (vi 0), some (vi 0), some (vi 0), none, none, some (vi 0), none]) .int flX8_21 fpX8_3 (by rw [up_same]; try rfl) (Nat.le_of_ble_eq_true rfl) (fun _ => rfl) (fun _ => rfl) dX8_init_30 ?_
  refine C_aload_n dX8_init_33 rfl ?_
  refine C_iconst 0 dX8_init_34 (by decide) ?_
  refine C_put (fs := [some (vr 11 20 (N)), some (vr 11 20 (N + 1)), some (vr 11 20 (N + 2)), some (vi 0), some (vi 0), some (vi 0), none, none, some (vi 0), none]) .int flX8_25 fpX8_4 (by rw [up_same]; try rfl) (Nat.le_of_ble_eq_true rfl) (fun _ => rfl) (fun _ => rfl) dX8_init_35 ?_
  refine C_aload_n dX8_init_38 rfl ?_
  refine C_iconst 0 dX8_init_39 (by decide) ?_
  refine C_put (fs := [some (vr 11 20 (N)), some (vr 11 20 (N + 1)), some (vr 11 20 (N + 2)), some (vi 0), some (vi 0), some (vi 0), none, none, some (vi 0), none]) .int flX8_28 fpX8_5 (by rw [up_same]; try rfl) (Nat.le_of_ble_eq_true rfl) (fun _ => rfl) (fun _ => rfl) dX8_init_40 ?_
  refine C_aload_n dX8_init_43 rfl ?_
  refine C_iconst 4 dX8_init_44 (by decide) ?_
  refine C_bipush 48 dX8_init_45 (by decide) ?_
  refine C_mna (kc := 2) (ks := 202) 4 48 16 (by decide) (ts2 133 rfl rfl) (ts1 114 rfl rfl) (by decide) (by decide) (by decide) (by decide) (by decide) dX8_init_47 (by omega) ?_
  refine C_putF (fs := [some (vr 11 20 (N)), some (vr 11 20 (N + 1)), some (vr 11 20 (N + 2)), some (vi 0), some (vi 0), some (vi 0), none, none, some (vi 0), none]) (.array (.array .int)) flX8_33 fqX8_6 (by rw [mn_lt (by omega), up_same]; try rfl) (Nat.le_of_ble_eq_true rfl) (fun _ => rfl) (fun _ => rfl) dX8_init_51 ?_
  refine C_aload_n dX8_init_54 rfl ?_
  refine C_sipush 192 dX8_init_55 (by decide) ?_
  refine C_newi (kc := 1) (ks := 10) 192 (ts1 114 rfl rfl) (by decide) (by decide) (by decide) dX8_init_58 (by omega) ?_
  refine C_putF (fs := [some (vr 11 20 (N)), some (vr 11 20 (N + 1)), some (vr 11 20 (N + 2)), some (vi 0), some (vi 0), some (vi 0), some (vr 16 4 (N + 3)), none, some (vi 0), none]) (.array .int) flX8_36 fqX8_7 (by rw [up_ne (by omega), up_same]; try rfl) (Nat.le_of_ble_eq_true rfl) (fun _ => rfl) (fun _ => rfl) dX8_init_60 ?_
  refine C_aload_n dX8_init_63 rfl ?_
  refine C_iconst 0 dX8_init_64 (by decide) ?_
  refine C_put (fs := [some (vr 11 20 (N)), some (vr 11 20 (N + 1)), some (vr 11 20 (N + 2)), some (vi 0), some (vi 0), some (vi 0), some (vr 16 4 (N + 3)), some (vr 11 192 (N + 8)), some (vi 0), none]) .int flX8_39 fpX8_8 (by rw [up_same]; try rfl) (Nat.le_of_ble_eq_true rfl) (fun _ => rfl) (fun _ => rfl) dX8_init_65 ?_
  refine C_aload_n dX8_init_68 rfl ?_
  refine C_bipush 10 dX8_init_69 (by decide) ?_
  refine C_newi (kc := 0) (ks := 0) 10 (ts1 114 rfl rfl) (by decide) (by decide) (by decide) dX8_init_71 (by omega) ?_
  refine C_putF (fs := [some (vr 11 20 (N)), some (vr 11 20 (N + 1)), some (vr 11 20 (N + 2)), some (vi 0), some (vi 0), some (vi 0), some (vr 16 4 (N + 3)), some (vr 11 192 (N + 8)), some (vi 0), none]) (.array .int) flX8_42 fqX8_9 (by rw [up_ne (by omega), up_same]; try rfl) (Nat.le_of_ble_eq_true rfl) (fun _ => rfl) (fun _ => rfl) dX8_init_73 ?_
  exact C_ret dX8_init_76
def ceX0 (N a : Nat) (ce : Nat → CE) : Nat → CE := (va_up (va_up (va_up (va_up (mnCe (N + 3) 5 8 17 (va_up (va_up (va_up (va_up (va_up (va_up ce (N) (.inr (11, 4, .inl (fun _ => 0)))) (a) (.inl (0, [some (vr 11 4 (N)), none, none, none, some (vi 0), some (vi 0), some (vi 0)]))) (N + 1) (.inr (11, 4, .inl (fun _ => 0)))) (a) (.inl (0, [some (vr 11 4 (N)), some (vr 11 4 (N + 1)), none, none, some (vi 0), some (vi 0), some (vi 0)]))) (N + 2) (.inr (11, 4, .inl (fun _ => 0)))) (a) (.inl (0, [some (vr 11 4 (N)), some (vr 11 4 (N + 1)), some (vr 11 4 (N + 2)), none, some (vi 0), some (vi 0), some (vi 0)])))) (a) (.inl (0, [some (vr 11 4 (N)), some (vr 11 4 (N + 1)), some (vr 11 4 (N + 2)), some (vr 17 5 (N + 3)), some (vi 0), some (vi 0), some (vi 0)]))) (a) (.inl (0, [some (vr 11 4 (N)), some (vr 11 4 (N + 1)), some (vr 11 4 (N + 2)), some (vr 17 5 (N + 3)), some (vi 0), some (vi 0), some (vi 0)]))) (a) (.inl (0, [some (vr 11 4 (N)), some (vr 11 4 (N + 1)), some (vr 11 4 (N + 2)), some (vr 17 5 (N + 3)), some (vi 0), some (vi 0), some (vi 0)]))) (a) (.inl (0, [some (vr 11 4 (N)), some (vr 11 4 (N + 1)), some (vr 11 4 (N + 2)), some (vr 17 5 (N + 3)), some (vi 0), some (vi 0), some (vi 0)])))
theorem ceX0_a {N a : Nat} {ce : Nat → CE} (ha : a < N) : ceX0 N a ce a = .inl (0, [some (vr 11 4 (N)), some (vr 11 4 (N + 1)), some (vr 11 4 (N + 2)), some (vr 17 5 (N + 3)), some (vi 0), some (vi 0), some (vi 0)]) := by
  unfold ceX0
  rw [up_same]
theorem ceX0_old {N a b : Nat} {ce : Nat → CE} (hb : b < N) (hne : b ≠ a) : ceX0 N a ce b = ce b := by
  unfold ceX0
  rw [up_ne (by omega), up_ne (by omega), up_ne (by omega), up_ne (by omega), mn_lt (by omega), up_ne (by omega), up_ne (by omega), up_ne (by omega), up_ne (by omega), up_ne (by omega), up_ne (by omega)]
theorem ceX0_n0 {N a : Nat} {ce : Nat → CE} (ha : a < N) : ceX0 N a ce (N) = .inr (11, 4, .inl (fun _ => 0)) := by
  unfold ceX0
  rw [up_ne (by omega), up_ne (by omega), up_ne (by omega), up_ne (by omega), mn_lt (by omega), up_ne (by omega), up_ne (by omega), up_ne (by omega), up_ne (by omega), up_ne (by omega), up_same]
theorem ceX0_n1 {N a : Nat} {ce : Nat → CE} (ha : a < N) : ceX0 N a ce (N + 1) = .inr (11, 4, .inl (fun _ => 0)) := by
  unfold ceX0
  rw [up_ne (by omega), up_ne (by omega), up_ne (by omega), up_ne (by omega), mn_lt (by omega), up_ne (by omega), up_ne (by omega), up_ne (by omega), up_same]
theorem ceX0_n2 {N a : Nat} {ce : Nat → CE} (ha : a < N) : ceX0 N a ce (N + 2) = .inr (11, 4, .inl (fun _ => 0)) := by
  unfold ceX0
  rw [up_ne (by omega), up_ne (by omega), up_ne (by omega), up_ne (by omega), mn_lt (by omega), up_ne (by omega), up_same]
set_option maxHeartbeats 4000000 in
set_option maxRecDepth 100000 in
theorem X0_init_ok {d N a : Nat} {ce : Nat → CE} (ha : a < N) (h0 : ce a = .inl (0, [none, none, none, none, some (vi 0), some (vi 0), some (vi 0)])) (hN : N + 9 < 900000) : MeC d yX0_init cX0_init 1 [vr 0 0 a] N ce 9 57 (N + 9) (ceX0 N a ce) := by
  refine MeC_of [some (vr 0 0 a)] rfl (Nat.le_of_ble_eq_true rfl) (by decide) rfl ?_
  refine C_aload_n dX0_init_0 rfl ?_
  refine C_objInit (ts2 175 rfl rfl) (ts1 26 rfl rfl) (ts1 27 rfl rfl) dX0_init_1 (Nat.le_of_ble_eq_true rfl) ?_
  refine C_aload_n dX0_init_4 rfl ?_
  refine C_iconst 4 dX0_init_5 (by decide) ?_
  refine C_newi (kc := 8) (ks := 53) 4 (ts1 114 rfl rfl) (by decide) (by decide) (by decide) dX0_init_6 (by omega) ?_
  refine C_putF (fs := [none, none, none, none, some (vi 0), some (vi 0), some (vi 0)]) (.array .int) flX0_9 fqX0_0 (by rw [up_ne (by omega), h0]; try rfl) (Nat.le_of_ble_eq_true rfl) (fun _ => rfl) (fun _ => rfl) dX0_init_8 ?_
  refine C_aload_n dX0_init_11 rfl ?_
  refine C_iconst 4 dX0_init_12 (by decide) ?_
  refine C_newi (kc := 7) (ks := 49) 4 (ts1 114 rfl rfl) (by decide) (by decide) (by decide) dX0_init_13 (by omega) ?_
  refine C_putF (fs := [some (vr 11 4 (N)), none, none, none, some (vi 0), some (vi 0), some (vi 0)]) (.array .int) flX0_13 fqX0_1 (by rw [up_ne (by omega), up_same]; try rfl) (Nat.le_of_ble_eq_true rfl) (fun _ => rfl) (fun _ => rfl) dX0_init_15 ?_
  refine C_aload_n dX0_init_18 rfl ?_
  refine C_iconst 4 dX0_init_19 (by decide) ?_
  refine C_newi (kc := 6) (ks := 45) 4 (ts1 114 rfl rfl) (by decide) (by decide) (by decide) dX0_init_20 (by omega) ?_
  refine C_putF (fs := [some (vr 11 4 (N)), some (vr 11 4 (N + 1)), none, none, some (vi 0), some (vi 0), some (vi 0)]) (.array .int) flX0_16 fqX0_2 (by rw [up_ne (by omega), up_same]; try rfl) (Nat.le_of_ble_eq_true rfl) (fun _ => rfl) (fun _ => rfl) dX0_init_22 ?_
  refine C_aload_n dX0_init_25 rfl ?_
  refine C_iconst 5 dX0_init_26 (by decide) ?_
  refine C_bipush 8 dX0_init_27 (by decide) ?_
  refine C_mna (kc := 0) (ks := 0) 5 8 17 (by decide) (ts2 176 rfl rfl) (ts1 114 rfl rfl) (by decide) (by decide) (by decide) (by decide) (by decide) dX0_init_29 (by omega) ?_
  refine C_putF (fs := [some (vr 11 4 (N)), some (vr 11 4 (N + 1)), some (vr 11 4 (N + 2)), none, some (vi 0), some (vi 0), some (vi 0)]) (.array (.array .int)) flX0_21 fqX0_3 (by rw [mn_lt (by omega), up_same]; try rfl) (Nat.le_of_ble_eq_true rfl) (fun _ => rfl) (fun _ => rfl) dX0_init_33 ?_
  refine C_aload_n dX0_init_36 rfl ?_
  refine C_iconst 0 dX0_init_37 (by decide) ?_
  refine C_put (fs := [some (vr 11 4 (N)), some (vr 11 4 (N + 1)), some (vr 11 4 (N + 2)), some (vr 17 5 (N + 3)), some (vi 0), some (vi 0), some (vi 0)]) .int flX0_24 fpX0_4 (by rw [up_same]; try rfl) (Nat.le_of_ble_eq_true rfl) (fun _ => rfl) (fun _ => rfl) dX0_init_38 ?_
  refine C_aload_n dX0_init_41 rfl ?_
  refine C_iconst 0 dX0_init_42 (by decide) ?_
  refine C_put (fs := [some (vr 11 4 (N)), some (vr 11 4 (N + 1)), some (vr 11 4 (N + 2)), some (vr 17 5 (N + 3)), some (vi 0), some (vi 0), some (vi 0)]) .int flX0_28 fpX0_5 (by rw [up_same]; try rfl) (Nat.le_of_ble_eq_true rfl) (fun _ => rfl) (fun _ => rfl) dX0_init_43 ?_
  refine C_aload_n dX0_init_46 rfl ?_
  refine C_iconst 0 dX0_init_47 (by decide) ?_
  refine C_put (fs := [some (vr 11 4 (N)), some (vr 11 4 (N + 1)), some (vr 11 4 (N + 2)), some (vr 17 5 (N + 3)), some (vi 0), some (vi 0), some (vi 0)]) .int flX0_31 fpX0_6 (by rw [up_same]; try rfl) (Nat.le_of_ble_eq_true rfl) (fun _ => rfl) (fun _ => rfl) dX0_init_48 ?_
  exact C_ret dX0_init_51
