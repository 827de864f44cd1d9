def shP (a : Nat) : Nat × Nat := [(3, 0), (11, 48), (11, 6), (11, 6), (11, 6), (11, 4), (11, 4), (1, 0), (11, 512), (11, 32), (11, 9), (1, 0), (11, 512), (11, 32), (11, 9), (1, 0), (11, 512), (11, 32), (11, 9)].getD a (11, 0)
def μZ : Mem := (fun _ _ => 0, fun _ _ => 0, fun _ _ => 0)
theorem shP_C : Closed 19 shP := ⟨by decide +kernel, by decide +kernel, by decide +kernel⟩
theorem shP_D (μ : Mem) : Dyn 19 shP μ := by
  intro a ha ht k hk hf
  exact absurd hf ((by decide +kernel : ∀ a, a < 19 → (shP a).1 < 11 → ∀ k, k < nf (shP a).1 → ¬ (ft (shP a).1 k).1 = 3) a ha ht k hk)
theorem shP_R : ∀ a, a < 19 → 15 ≤ (shP a).1 → False := by decide +kernel
def c0P : Nat → CE := fun _ => .inl (3, [some (vi 0), some (vi 0), some (vi 0), some (vi 0), some (vi 0), some (vi 0), some (vi 0), none, none, none, none, none, none, none, none, none])
def c1P : Nat → CE := (va_up (ceX1 (16) (15) (va_up (va_up (ceX1 (12) (11) (va_up (va_up (ceX1 (8) (7) (va_up (va_up (va_up (va_up (va_up (va_up (va_up (va_up (va_up (va_up (va_up (va_up (va_up (va_up (va_up (va_up (va_up (va_up (va_up (va_up c0P (0) (.inl (3, [some (vi 0), some (vi 0), some (vi 0), some (vi 0), some (vi 0), some (vi 0), some (vi 0), none, none, none, none, none, none, none, none, none]))) (0) (.inl (3, [some (vi 0), some (vi 0), some (vi 0), some (vi 0), some (vi 0), some (vi 0), some (vi 0), none, none, none, none, none, none, none, none, none]))) (0) (.inl (3, [some (vi 0), some (vi 0), some (vi 0), some (vi 0), some (vi 0), some (vi 0), some (vi 0), none, none, none, none, none, none, none, none, none]))) (0) (.inl (3, [some (vi 0), some (vi 0), some (vi 0), some (vi 0), some (vi 0), some (vi 0), some (vi 0), none, none, none, none, none, none, none, none, none]))) (0) (.inl (3, [some (vi 0), some (vi 0), some (vi 0), some (vi 0), some (vi 0), some (vi 0), some (vi 0), none, none, none, none, none, none, none, none, none]))) (0) (.inl (3, [some (vi 0), some (vi 0), some (vi 0), some (vi 0), some (vi 0), some (vi 0), some (vi 0), none, none, none, none, none, none, none, none, none]))) (0) (.inl (3, [some (vi 0), some (vi 0), some (vi 0), some (vi 0), some (vi 0), some (vi 0), some (vi 0), none, none, none, none, none, none, none, none, none]))) (1) (.inr (11, 48, .inl (fun _ => 0)))) (0) (.inl (3, [some (vi 0), some (vi 0), some (vi 0), some (vi 0), some (vi 0), some (vi 0), some (vi 0), some (vr 11 48 (1)), none, none, none, none, none, none, none, none]))) (2) (.inr (11, 6, .inl (fun _ => 0)))) (0) (.inl (3, [some (vi 0), some (vi 0), some (vi 0), some (vi 0), some (vi 0), some (vi 0), some (vi 0), some (vr 11 48 (1)), some (vr 11 6 (2)), none, none, none, none, none, none, none]))) (3) (.inr (11, 6, .inl (fun _ => 0)))) (0) (.inl (3, [some (vi 0), some (vi 0), some (vi 0), some (vi 0), some (vi 0), some (vi 0), some (vi 0), some (vr 11 48 (1)), some (vr 11 6 (2)), some (vr 11 6 (3)), none, none, none, none, none, none]))) (4) (.inr (11, 6, .inl (fun _ => 0)))) (0) (.inl (3, [some (vi 0), some (vi 0), some (vi 0), some (vi 0), some (vi 0), some (vi 0), some (vi 0), some (vr 11 48 (1)), some (vr 11 6 (2)), some (vr 11 6 (3)), some (vr 11 6 (4)), none, none, none, none, none]))) (5) (.inr (11, 4, .inl (fun _ => 0)))) (0) (.inl (3, [some (vi 0), some (vi 0), some (vi 0), some (vi 0), some (vi 0), some (vi 0), some (vi 0), some (vr 11 48 (1)), some (vr 11 6 (2)), some (vr 11 6 (3)), some (vr 11 6 (4)), some (vr 11 4 (5)), none, none, none, none]))) (6) (.inr (11, 4, .inl (fun _ => 0)))) (0) (.inl (3, [some (vi 0), some (vi 0), some (vi 0), some (vi 0), some (vi 0), some (vi 0), some (vi 0), some (vr 11 48 (1)), some (vr 11 6 (2)), some (vr 11 6 (3)), some (vr 11 6 (4)), some (vr 11 4 (5)), some (vr 11 4 (6)), none, none, none]))) (7) (.inl (1, [none, none, none, some (vi 0)])))) (0) (.inl (3, [some (vi 0), some (vi 0), some (vi 0), some (vi 0), some (vi 0), some (vi 0), some (vi 0), some (vr 11 48 (1)), some (vr 11 6 (2)), some (vr 11 6 (3)), some (vr 11 6 (4)), some (vr 11 4 (5)), some (vr 11 4 (6)), some (vr 1 0 (7)), none, none]))) (11) (.inl (1, [none, none, none, some (vi 0)])))) (0) (.inl (3, [some (vi 0), some (vi 0), some (vi 0), some (vi 0), some (vi 0), some (vi 0), some (vi 0), some (vr 11 48 (1)), some (vr 11 6 (2)), some (vr 11 6 (3)), some (vr 11 6 (4)), some (vr 11 4 (5)), some (vr 11 4 (6)), some (vr 1 0 (7)), some (vr 1 0 (11)), none]))) (15) (.inl (1, [none, none, none, some (vi 0)])))) (0) (.inl (3, [some (vi 0), some (vi 0), some (vi 0), some (vi 0), some (vi 0), some (vi 0), some (vi 0), some (vr 11 48 (1)), some (vr 11 6 (2)), some (vr 11 6 (3)), some (vr 11 6 (4)), some (vr 11 4 (5)), some (vr 11 4 (6)), some (vr 1 0 (7)), some (vr 1 0 (11)), some (vr 1 0 (15))])))
theorem c1P_0 (ρ : Nat → Nat) (cT : Nat → ClassId) : cellE ρ cT μZ 0 (shP 0) = ceE ρ cT (c1P 0) := by
  unfold c1P
  rw [up_same]
  rfl
theorem c1P_1 (ρ : Nat → Nat) (cT : Nat → ClassId) : cellE ρ cT μZ 1 (shP 1) = ceE ρ cT (c1P 1) := by
  unfold c1P
  rw [up_ne (by decide), ceX1_old (by decide) (by decide), up_ne (by decide), up_ne (by decide), ceX1_old (by decide) (by decide), up_ne (by decide), up_ne (by decide), ceX1_old (by decide) (by decide), up_ne (by decide), up_ne (by decide), up_ne (by decide), up_ne (by decide), up_ne (by decide), up_ne (by decide), up_ne (by decide), up_ne (by decide), up_ne (by decide), up_ne (by decide), up_ne (by decide), up_ne (by decide), up_same]
  rfl
theorem c1P_2 (ρ : Nat → Nat) (cT : Nat → ClassId) : cellE ρ cT μZ 2 (shP 2) = ceE ρ cT (c1P 2) := by
  unfold c1P
  rw [up_ne (by decide), ceX1_old (by decide) (by decide), up_ne (by decide), up_ne (by decide), ceX1_old (by decide) (by decide), up_ne (by decide), up_ne (by decide), ceX1_old (by decide) (by decide), up_ne (by decide), up_ne (by decide), up_ne (by decide), up_ne (by decide), up_ne (by decide), up_ne (by decide), up_ne (by decide), up_ne (by decide), up_ne (by decide), up_ne (by decide), up_same]
  rfl
theorem c1P_3 (ρ : Nat → Nat) (cT : Nat → ClassId) : cellE ρ cT μZ 3 (shP 3) = ceE ρ cT (c1P 3) := by
  unfold c1P
  rw [up_ne (by decide), ceX1_old (by decide) (by decide), up_ne (by decide), up_ne (by decide), ceX1_old (by decide) (by decide), up_ne (by decide), up_ne (by decide), ceX1_old (by decide) (by decide), up_ne (by decide), up_ne (by decide), up_ne (by decide), up_ne (by decide), up_ne (by decide), up_ne (by decide), up_ne (by decide), up_ne (by decide), up_same]
  rfl
theorem c1P_4 (ρ : Nat → Nat) (cT : Nat → ClassId) : cellE ρ cT μZ 4 (shP 4) = ceE ρ cT (c1P 4) := by
  unfold c1P
  rw [up_ne (by decide), ceX1_old (by decide) (by decide), up_ne (by decide), up_ne (by decide), ceX1_old (by decide) (by decide), up_ne (by decide), up_ne (by decide), ceX1_old (by decide) (by decide), up_ne (by decide), up_ne (by decide), up_ne (by decide), up_ne (by decide), up_ne (by decide), up_ne (by decide), up_same]
  rfl
theorem c1P_5 (ρ : Nat → Nat) (cT : Nat → ClassId) : cellE ρ cT μZ 5 (shP 5) = ceE ρ cT (c1P 5) := by
  unfold c1P
  rw [up_ne (by decide), ceX1_old (by decide) (by decide), up_ne (by decide), up_ne (by decide), ceX1_old (by decide) (by decide), up_ne (by decide), up_ne (by decide), ceX1_old (by decide) (by decide), up_ne (by decide), up_ne (by decide), up_ne (by decide), up_ne (by decide), up_same]
  rfl
theorem c1P_6 (ρ : Nat → Nat) (cT : Nat → ClassId) : cellE ρ cT μZ 6 (shP 6) = ceE ρ cT (c1P 6) := by
  unfold c1P
  rw [up_ne (by decide), ceX1_old (by decide) (by decide), up_ne (by decide), up_ne (by decide), ceX1_old (by decide) (by decide), up_ne (by decide), up_ne (by decide), ceX1_old (by decide) (by decide), up_ne (by decide), up_ne (by decide), up_same]
  rfl
theorem c1P_7 (ρ : Nat → Nat) (cT : Nat → ClassId) : cellE ρ cT μZ 7 (shP 7) = ceE ρ cT (c1P 7) := by
  unfold c1P
  rw [up_ne (by decide), ceX1_old (by decide) (by decide), up_ne (by decide), up_ne (by decide), ceX1_old (by decide) (by decide), up_ne (by decide), up_ne (by decide), ceX1_a (by decide)]
  rfl
theorem c1P_8 (ρ : Nat → Nat) (cT : Nat → ClassId) : cellE ρ cT μZ 8 (shP 8) = ceE ρ cT (c1P 8) := by
  unfold c1P
  rw [up_ne (by decide), ceX1_old (by decide) (by decide), up_ne (by decide), up_ne (by decide), ceX1_old (by decide) (by decide), up_ne (by decide), up_ne (by decide), ceX1_n0 (N := 8) (a := 7) (by decide)]
  rfl
theorem c1P_9 (ρ : Nat → Nat) (cT : Nat → ClassId) : cellE ρ cT μZ 9 (shP 9) = ceE ρ cT (c1P 9) := by
  unfold c1P
  rw [up_ne (by decide), ceX1_old (by decide) (by decide), up_ne (by decide), up_ne (by decide), ceX1_old (by decide) (by decide), up_ne (by decide), up_ne (by decide), ceX1_n1 (N := 8) (a := 7) (by decide)]
  rfl
theorem c1P_10 (ρ : Nat → Nat) (cT : Nat → ClassId) : cellE ρ cT μZ 10 (shP 10) = ceE ρ cT (c1P 10) := by
  unfold c1P
  rw [up_ne (by decide), ceX1_old (by decide) (by decide), up_ne (by decide), up_ne (by decide), ceX1_old (by decide) (by decide), up_ne (by decide), up_ne (by decide), ceX1_n2 (N := 8) (a := 7) (by decide)]
  rfl
theorem c1P_11 (ρ : Nat → Nat) (cT : Nat → ClassId) : cellE ρ cT μZ 11 (shP 11) = ceE ρ cT (c1P 11) := by
  unfold c1P
  rw [up_ne (by decide), ceX1_old (by decide) (by decide), up_ne (by decide), up_ne (by decide), ceX1_a (by decide)]
  rfl
theorem c1P_12 (ρ : Nat → Nat) (cT : Nat → ClassId) : cellE ρ cT μZ 12 (shP 12) = ceE ρ cT (c1P 12) := by
  unfold c1P
  rw [up_ne (by decide), ceX1_old (by decide) (by decide), up_ne (by decide), up_ne (by decide), ceX1_n0 (N := 12) (a := 11) (by decide)]
  rfl
theorem c1P_13 (ρ : Nat → Nat) (cT : Nat → ClassId) : cellE ρ cT μZ 13 (shP 13) = ceE ρ cT (c1P 13) := by
  unfold c1P
  rw [up_ne (by decide), ceX1_old (by decide) (by decide), up_ne (by decide), up_ne (by decide), ceX1_n1 (N := 12) (a := 11) (by decide)]
  rfl
theorem c1P_14 (ρ : Nat → Nat) (cT : Nat → ClassId) : cellE ρ cT μZ 14 (shP 14) = ceE ρ cT (c1P 14) := by
  unfold c1P
  rw [up_ne (by decide), ceX1_old (by decide) (by decide), up_ne (by decide), up_ne (by decide), ceX1_n2 (N := 12) (a := 11) (by decide)]
  rfl
theorem c1P_15 (ρ : Nat → Nat) (cT : Nat → ClassId) : cellE ρ cT μZ 15 (shP 15) = ceE ρ cT (c1P 15) := by
  unfold c1P
  rw [up_ne (by decide), ceX1_a (by decide)]
  rfl
theorem c1P_16 (ρ : Nat → Nat) (cT : Nat → ClassId) : cellE ρ cT μZ 16 (shP 16) = ceE ρ cT (c1P 16) := by
  unfold c1P
  rw [up_ne (by decide), ceX1_n0 (N := 16) (a := 15) (by decide)]
  rfl
theorem c1P_17 (ρ : Nat → Nat) (cT : Nat → ClassId) : cellE ρ cT μZ 17 (shP 17) = ceE ρ cT (c1P 17) := by
  unfold c1P
  rw [up_ne (by decide), ceX1_n1 (N := 16) (a := 15) (by decide)]
  rfl
theorem c1P_18 (ρ : Nat → Nat) (cT : Nat → ClassId) : cellE ρ cT μZ 18 (shP 18) = ceE ρ cT (c1P 18) := by
  unfold c1P
  rw [up_ne (by decide), ceX1_n2 (N := 16) (a := 15) (by decide)]
  rfl
theorem c1P_cell : ∀ (ρ : Nat → Nat) (cT : Nat → ClassId) (a : Nat), a < 19 → cellE ρ cT μZ a (shP a) = ceE ρ cT (c1P a) := by
  intro ρ cT a ha
  rcases (show a = 0 ∨ a = 1 ∨ a = 2 ∨ a = 3 ∨ a = 4 ∨ a = 5 ∨ a = 6 ∨ a = 7 ∨ a = 8 ∨ a = 9 ∨ a = 10 ∨ a = 11 ∨ a = 12 ∨ a = 13 ∨ a = 14 ∨ a = 15 ∨ a = 16 ∨ a = 17 ∨ a = 18 by omega) with rfl | rfl | rfl | rfl | rfl | rfl | rfl | rfl | rfl | rfl | rfl | rfl | rfl | rfl | rfl | rfl | rfl | rfl | rfl
  · exact c1P_0 ρ cT
  · exact c1P_1 ρ cT
  · exact c1P_2 ρ cT
  · exact c1P_3 ρ cT
  · exact c1P_4 ρ cT
  · exact c1P_5 ρ cT
  · exact c1P_6 ρ cT
  · exact c1P_7 ρ cT
  · exact c1P_8 ρ cT
  · exact c1P_9 ρ cT
  · exact c1P_10 ρ cT
  · exact c1P_11 ρ cT
  · exact c1P_12 ρ cT
  · exact c1P_13 ρ cT
  · exact c1P_14 ρ cT
  · exact c1P_15 ρ cT
  · exact c1P_16 ρ cT
  · exact c1P_17 ρ cT
  · exact c1P_18 ρ cT
def ceX3 (N a : Nat) (ce : Nat → CE) : Nat → CE := (va_up (ceX1 (N + 15) (N + 14) (va_up (va_up (ceX1 (N + 11) (N + 10) (va_up (va_up (ceX1 (N + 7) (N + 6) (va_up (va_up (va_up (va_up (va_up (va_up (va_up (va_up (va_up (va_up (va_up (va_up (va_up (va_up (va_up (va_up (va_up (va_up (va_up (va_up ce (a) (.inl (3, [some (vi 0), some (vi 0), some (vi 0), some (vi 0), some (vi 0), some (vi 0), some (vi 0), none, none, none, none, none, none, none, none, none]))) (a) (.inl (3, [some (vi 0), some (vi 0), some (vi 0), some (vi 0), some (vi 0), some (vi 0), some (vi 0), none, none, none, none, none, none, none, none, none]))) (a) (.inl (3, [some (vi 0), some (vi 0), some (vi 0), some (vi 0), some (vi 0), some (vi 0), some (vi 0), none, none, none, none, none, none, none, none, none]))) (a) (.inl (3, [some (vi 0), some (vi 0), some (vi 0), some (vi 0), some (vi 0), some (vi 0), some (vi 0), none, none, none, none, none, none, none, none, none]))) (a) (.inl (3, [some (vi 0), some (vi 0), some (vi 0), some (vi 0), some (vi 0), some (vi 0), some (vi 0), none, none, none, none, none, none, none, none, none]))) (a) (.inl (3, [some (vi 0), some (vi 0), some (vi 0), some (vi 0), some (vi 0), some (vi 0), some (vi 0), none, none, none, none, none, none, none, none, none]))) (a) (.inl (3, [some (vi 0), some (vi 0), some (vi 0), some (vi 0), some (vi 0), some (vi 0), some (vi 0), none, none, none, none, none, none, none, none, none]))) (N) (.inr (11, 48, .inl (fun _ => 0)))) (a) (.inl (3, [some (vi 0), some (vi 0), some (vi 0), some (vi 0), some (vi 0), some (vi 0), some (vi 0), some (vr 11 48 (N)), none, none, none, none, none, none, none, none]))) (N + 1) (.inr (11, 6, .inl (fun _ => 0)))) (a) (.inl (3, [some (vi 0), some (vi 0), some (vi 0), some (vi 0), some (vi 0), some (vi 0), some (vi 0), some (vr 11 48 (N)), some (vr 11 6 (N + 1)), none, none, none, none, none, none, none]))) (N + 2) (.inr (11, 6, .inl (fun _ => 0)))) (a) (.inl (3, [some (vi 0), some (vi 0), some (vi 0), some (vi 0), some (vi 0), some (vi 0), some (vi 0), some (vr 11 48 (N)), some (vr 11 6 (N + 1)), some (vr 11 6 (N + 2)), none, none, none, none, none, none]))) (N + 3) (.inr (11, 6, .inl (fun _ => 0)))) (a) (.inl (3, [some (vi 0), some (vi 0), some (vi 0), some (vi 0), some (vi 0), some (vi 0), some (vi 0), some (vr 11 48 (N)), some (vr 11 6 (N + 1)), some (vr 11 6 (N + 2)), some (vr 11 6 (N + 3)), none, none, none, none, none]))) (N + 4) (.inr (11, 4, .inl (fun _ => 0)))) (a) (.inl (3, [some (vi 0), some (vi 0), some (vi 0), some (vi 0), some (vi 0), some (vi 0), some (vi 0), some (vr 11 48 (N)), some (vr 11 6 (N + 1)), some (vr 11 6 (N + 2)), some (vr 11 6 (N + 3)), some (vr 11 4 (N + 4)), none, none, none, none]))) (N + 5) (.inr (11, 4, .inl (fun _ => 0)))) (a) (.inl (3, [some (vi 0), some (vi 0), some (vi 0), some (vi 0), some (vi 0), some (vi 0), some (vi 0), some (vr 11 48 (N)), some (vr 11 6 (N + 1)), some (vr 11 6 (N + 2)), some (vr 11 6 (N + 3)), some (vr 11 4 (N + 4)), some (vr 11 4 (N + 5)), none, none, none]))) (N + 6) (.inl (1, [none, none, none, some (vi 0)])))) (a) (.inl (3, [some (vi 0), some (vi 0), some (vi 0), some (vi 0), some (vi 0), some (vi 0), some (vi 0), some (vr 11 48 (N)), some (vr 11 6 (N + 1)), some (vr 11 6 (N + 2)), some (vr 11 6 (N + 3)), some (vr 11 4 (N + 4)), some (vr 11 4 (N + 5)), some (vr 1 0 (N + 6)), none, none]))) (N + 10) (.inl (1, [none, none, none, some (vi 0)])))) (a) (.inl (3, [some (vi 0), some (vi 0), some (vi 0), some (vi 0), some (vi 0), some (vi 0), some (vi 0), some (vr 11 48 (N)), some (vr 11 6 (N + 1)), some (vr 11 6 (N + 2)), some (vr 11 6 (N + 3)), some (vr 11 4 (N + 4)), some (vr 11 4 (N + 5)), some (vr 1 0 (N + 6)), some (vr 1 0 (N + 10)), none]))) (N + 14) (.inl (1, [none, none, none, some (vi 0)])))) (a) (.inl (3, [some (vi 0), some (vi 0), some (vi 0), some (vi 0), some (vi 0), some (vi 0), some (vi 0), some (vr 11 48 (N)), some (vr 11 6 (N + 1)), some (vr 11 6 (N + 2)), some (vr 11 6 (N + 3)), some (vr 11 4 (N + 4)), some (vr 11 4 (N + 5)), some (vr 1 0 (N + 6)), some (vr 1 0 (N + 10)), some (vr 1 0 (N + 14))])))
theorem ceX3_a {N a : Nat} {ce : Nat → CE} (ha : a < N) : ceX3 N a ce a = .inl (3, [some (vi 0), some (vi 0), some (vi 0), some (vi 0), some (vi 0), some (vi 0), some (vi 0), some (vr 11 48 (N)), some (vr 11 6 (N + 1)), some (vr 11 6 (N + 2)), some (vr 11 6 (N + 3)), some (vr 11 4 (N + 4)), some (vr 11 4 (N + 5)), some (vr 1 0 (N + 6)), some (vr 1 0 (N + 10)), some (vr 1 0 (N + 14))]) := by
  unfold ceX3
  rw [up_same]
theorem ceX3_old {N a b : Nat} {ce : Nat → CE} (hb : b < N) (hne : b ≠ a) : ceX3 N a ce b = ce b := by
  unfold ceX3
  rw [up_ne (by omega), ceX1_old (by omega) (by omega), up_ne (by omega), up_ne (by omega), ceX1_old (by omega) (by omega), up_ne (by omega), up_ne (by omega), ceX1_old (by omega) (by omega), up_ne (by omega), up_ne (by omega), up_ne (by omega), up_ne (by omega), up_ne (by omega), up_ne (by omega), up_ne (by omega), up_ne (by omega), up_ne (by omega), up_ne (by omega), up_ne (by omega), up_ne (by omega), up_ne (by omega), up_ne (by omega), up_ne (by omega), up_ne (by omega), up_ne (by omega), up_ne (by omega), up_ne (by omega), up_ne (by omega)]
theorem ceX3_n0 {N a : Nat} {ce : Nat → CE} (ha : a < N) : ceX3 N a ce (N) = .inr (11, 48, .inl (fun _ => 0)) := by
  unfold ceX3
  rw [up_ne (by omega), ceX1_old (by omega) (by omega), up_ne (by omega), up_ne (by omega), ceX1_old (by omega) (by omega), up_ne (by omega), up_ne (by omega), ceX1_old (by omega) (by omega), up_ne (by omega), up_ne (by omega), up_ne (by omega), up_ne (by omega), up_ne (by omega), up_ne (by omega), up_ne (by omega), up_ne (by omega), up_ne (by omega), up_ne (by omega), up_ne (by omega), up_ne (by omega), up_same]
theorem ceX3_n1 {N a : Nat} {ce : Nat → CE} (ha : a < N) : ceX3 N a ce (N + 1) = .inr (11, 6, .inl (fun _ => 0)) := by
  unfold ceX3
  rw [up_ne (by omega), ceX1_old (by omega) (by omega), up_ne (by omega), up_ne (by omega), ceX1_old (by omega) (by omega), up_ne (by omega), up_ne (by omega), ceX1_old (by omega) (by omega), up_ne (by omega), up_ne (by omega), up_ne (by omega), up_ne (by omega), up_ne (by omega), up_ne (by omega), up_ne (by omega), up_ne (by omega), up_ne (by omega), up_ne (by omega), up_same]
theorem ceX3_n2 {N a : Nat} {ce : Nat → CE} (ha : a < N) : ceX3 N a ce (N + 2) = .inr (11, 6, .inl (fun _ => 0)) := by
  unfold ceX3
  rw [up_ne (by omega), ceX1_old (by omega) (by omega), up_ne (by omega), up_ne (by omega), ceX1_old (by omega) (by omega), up_ne (by omega), up_ne (by omega), ceX1_old (by omega) (by omega), up_ne (by omega), up_ne (by omega), up_ne (by omega), up_ne (by omega), up_ne (by omega), up_ne (by omega), up_ne (by omega), up_ne (by omega), up_same]
theorem ceX3_n3 {N a : Nat} {ce : Nat → CE} (ha : a < N) : ceX3 N a ce (N + 3) = .inr (11, 6, .inl (fun _ => 0)) := by
  unfold ceX3
  rw [up_ne (by omega), ceX1_old (by omega) (by omega), up_ne (by omega), up_ne (by omega), ceX1_old (by omega) (by omega), up_ne (by omega), up_ne (by omega), ceX1_old (by omega) (by omega), up_ne (by omega), up_ne (by omega), up_ne (by omega), up_ne (by omega), up_ne (by omega), up_ne (by omega), up_same]
theorem ceX3_n4 {N a : Nat} {ce : Nat → CE} (ha : a < N) : ceX3 N a ce (N + 4) = .inr (11, 4, .inl (fun _ => 0)) := by
  unfold ceX3
  rw [up_ne (by omega), ceX1_old (by omega) (by omega), up_ne (by omega), up_ne (by omega), ceX1_old (by omega) (by omega), up_ne (by omega), up_ne (by omega), ceX1_old (by omega) (by omega), up_ne (by omega), up_ne (by omega), up_ne (by omega), up_ne (by omega), up_same]
theorem ceX3_n5 {N a : Nat} {ce : Nat → CE} (ha : a < N) : ceX3 N a ce (N + 5) = .inr (11, 4, .inl (fun _ => 0)) := by
  unfold ceX3
  rw [up_ne (by omega), ceX1_old (by omega) (by omega), up_ne (by omega), up_ne (by omega), ceX1_old (by omega) (by omega), up_ne (by omega), up_ne (by omega), ceX1_old (by omega) (by omega), up_ne (by omega), up_ne (by omega), up_same]
set_option maxHeartbeats 4000000 in
set_option maxRecDepth 100000 in
theorem X3_walk {d N a N' : Nat} {ce ce' : Nat → CE} (ha : a < N) (h0 : ce a = .inl (3, [some (vi 0), some (vi 0), some (vi 0), some (vi 0), some (vi 0), some (vi 0), some (vi 0), none, none, none, none, none, none, none, none, none])) (hN : N + 18 < 900000) (k : EvC (d + 1) yX3_init cX3_init 1 118 [some (vr 3 0 a)] [] (N + 18) (ceX3 N a ce) 0 0 N' ce') : EvC (d + 1) yX3_init cX3_init 1 0 [some (vr 3 0 a)] [] N ce 18 1745 N' ce' := by
  refine C_aload_n dX3_init_0 rfl ?_
  refine C_objInit (ts1 120 rfl rfl) (ts1 26 rfl rfl) (ts1 27 rfl rfl) dX3_init_1 (Nat.le_of_ble_eq_true rfl) ?_
  refine C_aload_n dX3_init_4 rfl ?_
  refine C_iconst 0 dX3_init_5 (by decide) ?_
  refine C_put (fs := [some (vi 0), some (vi 0), some (vi 0), some (vi 0), some (vi 0), some (vi 0), some (vi 0), none, none, none, none, none, none, none, none, none]) .int flX3_9 fpX3_0 (h0) (Nat.le_of_ble_eq_true rfl) (fun _ => rfl) (fun _ => rfl) dX3_init_6 ?_
  refine C_aload_n dX3_init_9 rfl ?_
  refine C_iconst 0 dX3_init_10 (by decide) ?_
  refine C_put (fs := [some (vi 0), some (vi 0), some (vi 0), some (vi 0), some (vi 0), some (vi 0), some (vi 0), none, none, none, none, none, none, none, none, none]) .int flX3_15 fpX3_1 (by rw [up_same]; try rfl) (Nat.le_of_ble_eq_true rfl) (fun _ => rfl) (fun _ => rfl) dX3_init_11 ?_
  refine C_aload_n dX3_init_14 rfl ?_
  refine C_iconst 0 dX3_init_15 (by decide) ?_
  refine C_put (fs := [some (vi 0), some (vi 0), some (vi 0), some (vi 0), some (vi 0), some (vi 0), some (vi 0), none, none, none, none, none, none, none, none, none]) .int flX3_18 fpX3_2 (by rw [up_same]; try rfl) (Nat.le_of_ble_eq_true rfl) (fun _ => rfl) (fun _ => rfl) dX3_init_16 ?_
  refine C_aload_n dX3_init_19 rfl ?_
  refine C_iconst 0 dX3_init_20 (by decide) ?_
  refine C_put (fs := [some (vi 0), some (vi 0), some (vi 0), some (vi 0), some (vi 0), some (vi 0), some (vi 0), none, none, none, none, none, none, none, none, none]) .int flX3_21 fpX3_3 (by rw [up_same]; try rfl) (Nat.le_of_ble_eq_true rfl) (fun _ => rfl) (fun _ => rfl) dX3_init_21 ?_
  refine C_aload_n dX3_init_24 rfl ?_
  refine C_iconst 0 dX3_init_25 (by decide) ?_
  refine C_put (fs := [some (vi 0), some (vi 0), some (vi 0), some (vi 0), some (vi 0), some (vi 0), some (vi 0), none, none, none, none, none, none, none, none, none]) .int flX3_24 fpX3_4 (by rw [up_same]; try rfl) (Nat.le_of_ble_eq_true rfl) (fun _ => rfl) (fun _ => rfl) dX3_init_26 ?_
  refine C_aload_n dX3_init_29 rfl ?_
  refine C_iconst 0 dX3_init_30 (by decide) ?_
  refine C_put (fs := [some (vi 0), some (vi 0), some (vi 0), some (vi 0), some (vi 0), some (vi 0), some (vi 0), none, none, none, none, none, none, none, none, none]) .int flX3_27 fpX3_5 (by rw [up_same]; try rfl) (Nat.le_of_ble_eq_true rfl) (fun _ => rfl) (fun _ => rfl) dX3_init_31 ?_
  refine C_aload_n dX3_init_34 rfl ?_
  refine C_iconst 0 dX3_init_35 (by decide) ?_
  refine C_put (fs := [some (vi 0), some (vi 0), some (vi 0), some (vi 0), some (vi 0), some (vi 0), some (vi 0), none, none, none, none, none, none, none, none, none]) .int flX3_30 fpX3_6 (by rw [up_same]; try rfl) (Nat.le_of_ble_eq_true rfl) (fun _ => rfl) (fun _ => rfl) dX3_init_36 ?_
  refine C_aload_n dX3_init_39 rfl ?_
  refine C_bipush 48 dX3_init_40 (by decide) ?_
  refine C_newi (kc := 17) (ks := 1697) 48 (ts1 114 rfl rfl) (by decide) (by decide) (by decide) dX3_init_42 (by omega) ?_
  refine C_putF (fs := [some (vi 0), some (vi 0), some (vi 0), some (vi 0), some (vi 0), some (vi 0), some (vi 0), none, none, none, none, none, none, none, none, none]) (.array .int) flX3_33 fqX3_7 (by rw [up_ne (by omega), up_same]; try rfl) (Nat.le_of_ble_eq_true rfl) (fun _ => rfl) (fun _ => rfl) dX3_init_44 ?_
  refine C_aload_n dX3_init_47 rfl ?_
  refine C_bipush 6 dX3_init_48 (by decide) ?_
  refine C_newi (kc := 16) (ks := 1691) 6 (ts1 114 rfl rfl) (by decide) (by decide) (by decide) dX3_init_50 (by omega) ?_
  refine C_putF (fs := [some (vi 0), some (vi 0), some (vi 0), some (vi 0), some (vi 0), some (vi 0), some (vi 0), some (vr 11 48 (N)), none, none, none, none, none, none, none, none]) (.array .int) flX3_37 fqX3_8 (by rw [up_ne (by omega), up_same]; try rfl) (Nat.le_of_ble_eq_true rfl) (fun _ => rfl) (fun _ => rfl) dX3_init_52 ?_
  refine C_aload_n dX3_init_55 rfl ?_
  refine C_bipush 6 dX3_init_56 (by decide) ?_
  refine C_newi (kc := 15) (ks := 1685) 6 (ts1 114 rfl rfl) (by decide) (by decide) (by decide) dX3_init_58 (by omega) ?_
  refine C_putF (fs := [some (vi 0), some (vi 0), some (vi 0), some (vi 0), some (vi 0), some (vi 0), some (vi 0), some (vr 11 48 (N)), some (vr 11 6 (N + 1)), none, none, none, none, none, none, none]) (.array .int) flX3_40 fqX3_9 (by rw [up_ne (by omega), up_same]; try rfl) (Nat.le_of_ble_eq_true rfl) (fun _ => rfl) (fun _ => rfl) dX3_init_60 ?_
  refine C_aload_n dX3_init_63 rfl ?_
  refine C_bipush 6 dX3_init_64 (by decide) ?_
  refine C_newi (kc := 14) (ks := 1679) 6 (ts1 114 rfl rfl) (by decide) (by decide) (by decide) dX3_init_66 (by omega) ?_
  refine C_putF (fs := [some (vi 0), some (vi 0), some (vi 0), some (vi 0), some (vi 0), some (vi 0), some (vi 0), some (vr 11 48 (N)), some (vr 11 6 (N + 1)), some (vr 11 6 (N + 2)), none, none, none, none, none, none]) (.array .int) flX3_43 fqX3_10 (by rw [up_ne (by omega), up_same]; try rfl) (Nat.le_of_ble_eq_true rfl) (fun _ => rfl) (fun _ => rfl) dX3_init_68 ?_
  refine C_aload_n dX3_init_71 rfl ?_
  refine C_iconst 4 dX3_init_72 (by decide) ?_
  refine C_newi (kc := 13) (ks := 1675) 4 (ts1 114 rfl rfl) (by decide) (by decide) (by decide) dX3_init_73 (by omega) ?_
  refine C_putF (fs := [some (vi 0), some (vi 0), some (vi 0), some (vi 0), some (vi 0), some (vi 0), some (vi 0), some (vr 11 48 (N)), some (vr 11 6 (N + 1)), some (vr 11 6 (N + 2)), some (vr 11 6 (N + 3)), none, none, none, none, none]) (.array .int) flX3_46 fqX3_11 (by rw [up_ne (by omega), up_same]; try rfl) (Nat.le_of_ble_eq_true rfl) (fun _ => rfl) (fun _ => rfl) dX3_init_75 ?_
  refine C_aload_n dX3_init_78 rfl ?_
  refine C_iconst 4 dX3_init_79 (by decide) ?_
  refine C_newi (kc := 12) (ks := 1671) 4 (ts1 114 rfl rfl) (by decide) (by decide) (by decide) dX3_init_80 (by omega) ?_
  refine C_putF (fs := [some (vi 0), some (vi 0), some (vi 0), some (vi 0), some (vi 0), some (vi 0), some (vi 0), some (vr 11 48 (N)), some (vr 11 6 (N + 1)), some (vr 11 6 (N + 2)), some (vr 11 6 (N + 3)), some (vr 11 4 (N + 4)), none, none, none, none]) (.array .int) flX3_49 fqX3_12 (by rw [up_ne (by omega), up_same]; try rfl) (Nat.le_of_ble_eq_true rfl) (fun _ => rfl) (fun _ => rfl) dX3_init_82 ?_
  refine C_aload_n dX3_init_85 rfl ?_
  refine C_new (kc := 11) (ks := 1667) (t := 1) rfl iX1 tyX1 tyX1_ok (ts1 121 rfl rfl) (ts1 122 rfl rfl) (ts1 9 rfl rfl) [none, none, none, some (vi 0)] (dfX1) (dcX1) dX3_init_86 (by omega) ?_
  refine C_dup dX3_init_89 ?_
  refine C_callIN (kc := 8) (ks := 1114) [] ilX1 (fun U h => h.2.2.2.2.2.2.2) rfl rfl (Nat.le_of_ble_eq_true rfl) dX3_init_90 ⟨by omega, by omega⟩ (X1_init_ok (by omega) (by rw [up_same]; try rfl) (by omega)) ?_
  refine C_putF (fs := [some (vi 0), some (vi 0), some (vi 0), some (vi 0), some (vi 0), some (vi 0), some (vi 0), some (vr 11 48 (N)), some (vr 11 6 (N + 1)), some (vr 11 6 (N + 2)), some (vr 11 6 (N + 3)), some (vr 11 4 (N + 4)), some (vr 11 4 (N + 5)), none, none, none]) (.object "RainLoom$Law") flX3_55 fqX3_13 (by rw [ceX1_old (by omega) (by omega), up_ne (by omega), up_same]; try rfl) (Nat.le_of_ble_eq_true rfl) (fun _ => rfl) (fun _ => rfl) dX3_init_93 ?_
  refine C_aload_n dX3_init_96 rfl ?_
  refine C_new (kc := 7) (ks := 1110) (t := 1) rfl iX1 tyX1 tyX1_ok (ts1 121 rfl rfl) (ts1 122 rfl rfl) (ts1 9 rfl rfl) [none, none, none, some (vi 0)] (dfX1) (dcX1) dX3_init_97 (by omega) ?_
  refine C_dup dX3_init_100 ?_
  refine C_callIN (kc := 4) (ks := 557) [] ilX1 (fun U h => h.2.2.2.2.2.2.2) rfl rfl (Nat.le_of_ble_eq_true rfl) dX3_init_101 ⟨by omega, by omega⟩ (X1_init_ok (by omega) (by rw [up_same]; try rfl) (by omega)) ?_
  refine C_putF (fs := [some (vi 0), some (vi 0), some (vi 0), some (vi 0), some (vi 0), some (vi 0), some (vi 0), some (vr 11 48 (N)), some (vr 11 6 (N + 1)), some (vr 11 6 (N + 2)), some (vr 11 6 (N + 3)), some (vr 11 4 (N + 4)), some (vr 11 4 (N + 5)), some (vr 1 0 (N + 6)), none, none]) (.object "RainLoom$Law") flX3_59 fqX3_14 (by rw [ceX1_old (by omega) (by omega), up_ne (by omega), up_same]; try rfl) (Nat.le_of_ble_eq_true rfl) (fun _ => rfl) (fun _ => rfl) dX3_init_104 ?_
  refine C_aload_n dX3_init_107 rfl ?_
  refine C_new (kc := 3) (ks := 553) (t := 1) rfl iX1 tyX1 tyX1_ok (ts1 121 rfl rfl) (ts1 122 rfl rfl) (ts1 9 rfl rfl) [none, none, none, some (vi 0)] (dfX1) (dcX1) dX3_init_108 (by omega) ?_
  refine C_dup dX3_init_111 ?_
  refine C_callIN (kc := 0) (ks := 0) [] ilX1 (fun U h => h.2.2.2.2.2.2.2) rfl rfl (Nat.le_of_ble_eq_true rfl) dX3_init_112 ⟨by omega, by omega⟩ (X1_init_ok (by omega) (by rw [up_same]; try rfl) (by omega)) ?_
  refine C_putF (fs := [some (vi 0), some (vi 0), some (vi 0), some (vi 0), some (vi 0), some (vi 0), some (vi 0), some (vr 11 48 (N)), some (vr 11 6 (N + 1)), some (vr 11 6 (N + 2)), some (vr 11 6 (N + 3)), some (vr 11 4 (N + 4)), some (vr 11 4 (N + 5)), some (vr 1 0 (N + 6)), some (vr 1 0 (N + 10)), none]) (.object "RainLoom$Law") flX3_62 fqX3_15 (by rw [ceX1_old (by omega) (by omega), up_ne (by omega), up_same]; try rfl) (Nat.le_of_ble_eq_true rfl) (fun _ => rfl) (fun _ => rfl) dX3_init_115 ?_
  exact k

theorem X3_init_ok {d : Nat} : MeC (d + 3) yX3_init cX3_init 1 [vr 3 0 0] 1 c0P 18 1745 (1 + 18) (ceOf shP (clrP 0 μZ)) := by
  refine MeC_of [some (vr 3 0 0)] rfl (Nat.le_of_ble_eq_true rfl) (by decide) rfl ?_
  have h9 : EvC (d + 2 + 1) yX3_init cX3_init 1 118 [some (vr 3 0 0)] [] 19 c1P 0 0 19 (ceOf shP (clrP 0 μZ)) := by
    refine C_toEv (N := 19) (ce := c1P) shP_C (shP_D _) shP_R c1P_cell ?_ (fun v hv => by cases hv) ?_
    · intro v hv
      simp only [List.mem_cons, List.not_mem_nil, or_false, Option.some.injEq] at hv
      subst hv
      exact VOK_mk (by decide) ⟨by decide, rfl⟩
    · refine Ev_aload_n dX3_init_118 rfl ?_
      refine Ev_callV [] mlX3_65 rfl rfl (Nat.le_of_ble_eq_true rfl) dX3_init_119 planClear_spec ?_
      exact R_v rfl dX3_init_122
  exact X3_walk (d := d + 2) (N := 1) (a := 0) (ce := c0P) (by decide) rfl (by decide) h9
