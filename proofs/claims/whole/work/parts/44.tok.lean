def shT (a : Nat) : Nat × Nat := [(6, 0), (13, 21), (11, 401), (11, 401), (13, 401)].getD a (11, 0)
theorem shT_C : Closed 5 shT := ⟨by decide +kernel, by decide +kernel, by decide +kernel⟩
theorem shT_D (μ : Mem) : Dyn 5 shT μ := by
  intro a ha ht k hk hf
  exact absurd hf ((by decide +kernel : ∀ a, a < 5 → (shT a).1 < 11 → ∀ k, k < nf (shT a).1 → ¬ (ft (shT a).1 k).1 = 3) a ha ht k hk)
theorem shT_R : ∀ a, a < 5 → 15 ≤ (shT a).1 → False := by decide +kernel
def c0T : Nat → CE := fun _ => .inl (6, [none, none, none, none, some (vi 0)])
def c1T : Nat → CE := (va_up (va_up (va_up (va_up (va_up (va_up (va_up (va_up (va_up c0T (1) (.inr (13, 21, .inr (.inl (fun _ => 0))))) (0) (.inl (6, [some (vr 13 21 (1)), none, none, none, some (vi 0)]))) (2) (.inr (11, 401, .inl (fun _ => 0)))) (0) (.inl (6, [some (vr 13 21 (1)), some (vr 11 401 (2)), none, none, some (vi 0)]))) (3) (.inr (11, 401, .inl (fun _ => 0)))) (0) (.inl (6, [some (vr 13 21 (1)), some (vr 11 401 (2)), some (vr 11 401 (3)), none, some (vi 0)]))) (4) (.inr (13, 401, .inr (.inl (fun _ => 0))))) (0) (.inl (6, [some (vr 13 21 (1)), some (vr 11 401 (2)), some (vr 11 401 (3)), some (vr 13 401 (4)), some (vi 0)]))) (0) (.inl (6, [some (vr 13 21 (1)), some (vr 11 401 (2)), some (vr 11 401 (3)), some (vr 13 401 (4)), some (vi 0)])))
def μT : Mem := sB μZ 1 (tkW 115 0 0 0 (μZ.2.1 1))
theorem c1T_0 (ρ : Nat → Nat) (cT : Nat → ClassId) : cellE ρ cT μZ 0 (shT 0) = ceE ρ cT (c1T 0) := by
  unfold c1T
  rw [up_same]
  rfl
theorem c1T_1 (ρ : Nat → Nat) (cT : Nat → ClassId) : cellE ρ cT μZ 1 (shT 1) = ceE ρ cT (c1T 1) := by
  unfold c1T
  rw [up_ne (by decide), up_ne (by decide), up_ne (by decide), up_ne (by decide), up_ne (by decide), up_ne (by decide), up_ne (by decide), up_ne (by decide), up_same]
  rfl
theorem c1T_2 (ρ : Nat → Nat) (cT : Nat → ClassId) : cellE ρ cT μZ 2 (shT 2) = ceE ρ cT (c1T 2) := by
  unfold c1T
  rw [up_ne (by decide), up_ne (by decide), up_ne (by decide), up_ne (by decide), up_ne (by decide), up_ne (by decide), up_same]
  rfl
theorem c1T_3 (ρ : Nat → Nat) (cT : Nat → ClassId) : cellE ρ cT μZ 3 (shT 3) = ceE ρ cT (c1T 3) := by
  unfold c1T
  rw [up_ne (by decide), up_ne (by decide), up_ne (by decide), up_ne (by decide), up_same]
  rfl
theorem c1T_4 (ρ : Nat → Nat) (cT : Nat → ClassId) : cellE ρ cT μZ 4 (shT 4) = ceE ρ cT (c1T 4) := by
  unfold c1T
  rw [up_ne (by decide), up_ne (by decide), up_same]
  rfl
theorem c1T_cell : ∀ (ρ : Nat → Nat) (cT : Nat → ClassId) (a : Nat), a < 5 → cellE ρ cT μZ a (shT a) = ceE ρ cT (c1T a) := by
  intro ρ cT a ha
  rcases (show a = 0 ∨ a = 1 ∨ a = 2 ∨ a = 3 ∨ a = 4 by omega) with rfl | rfl | rfl | rfl | rfl
  · exact c1T_0 ρ cT
  · exact c1T_1 ρ cT
  · exact c1T_2 ρ cT
  · exact c1T_3 ρ cT
  · exact c1T_4 ρ cT
set_option maxHeartbeats 4000000 in
set_option maxRecDepth 100000 in
theorem X6_init_ok {d : Nat} : MeC (d + 4) yX6_init cX6_init 6 [vr 6 0 0] 1 c0T 4 1224 (1 + 4) (ceOf shT μT) := by
  have h0 : c0T 0 = .inl (6, [none, none, none, none, some (vi 0)]) := rfl
  refine MeC_of [some (vr 6 0 0), none, none, none, none, none] rfl (Nat.le_of_ble_eq_true rfl) (by decide) rfl ?_
  refine C_aload_n dX6_init_0 rfl ?_
  refine C_objInit (ts1 39 rfl rfl) (ts1 26 rfl rfl) (ts1 27 rfl rfl) dX6_init_1 (Nat.le_of_ble_eq_true rfl) ?_
  refine C_aload_n dX6_init_4 rfl ?_
  refine C_bipush 21 dX6_init_5 (by decide) ?_
  refine C_newl (kc := 3) (ks := 1203) 21 (ts1 113 rfl rfl) (by decide) (by decide) (by decide) dX6_init_7 (by omega) ?_
  refine C_putF (fs := [none, none, none, none, some (vi 0)]) (.array .long) flX6_9 fqX6_0 (by rw [up_ne (by omega), h0]; try rfl) (Nat.le_of_ble_eq_true rfl) (fun _ => rfl) (fun _ => rfl) dX6_init_9 ?_
  refine C_aload_n dX6_init_12 rfl ?_
  refine C_sipush 401 dX6_init_13 (by decide) ?_
  refine C_newi (kc := 2) (ks := 802) 401 (ts1 114 rfl rfl) (by decide) (by decide) (by decide) dX6_init_16 (by omega) ?_
  refine C_putF (fs := [some (vr 13 21 (1)), none, none, none, some (vi 0)]) (.array .int) flX6_13 fqX6_1 (by rw [up_ne (by omega), up_same]; try rfl) (Nat.le_of_ble_eq_true rfl) (fun _ => rfl) (fun _ => rfl) dX6_init_18 ?_
  refine C_aload_n dX6_init_21 rfl ?_
  refine C_sipush 401 dX6_init_22 (by decide) ?_
  refine C_newi (kc := 1) (ks := 401) 401 (ts1 114 rfl rfl) (by decide) (by decide) (by decide) dX6_init_25 (by omega) ?_
  refine C_putF (fs := [some (vr 13 21 (1)), some (vr 11 401 (2)), none, none, some (vi 0)]) (.array .int) flX6_17 fqX6_2 (by rw [up_ne (by omega), up_same]; try rfl) (Nat.le_of_ble_eq_true rfl) (fun _ => rfl) (fun _ => rfl) dX6_init_27 ?_
  refine C_aload_n dX6_init_30 rfl ?_
  refine C_sipush 401 dX6_init_31 (by decide) ?_
  refine C_newl (kc := 0) (ks := 0) 401 (ts1 113 rfl rfl) (by decide) (by decide) (by decide) dX6_init_34 (by omega) ?_
  refine C_putF (fs := [some (vr 13 21 (1)), some (vr 11 401 (2)), some (vr 11 401 (3)), none, some (vi 0)]) (.array .long) flX6_20 fqX6_3 (by rw [up_ne (by omega), up_same]; try rfl) (Nat.le_of_ble_eq_true rfl) (fun _ => rfl) (fun _ => rfl) dX6_init_36 ?_
  refine C_aload_n dX6_init_39 rfl ?_
  refine C_iconst 0 dX6_init_40 (by decide) ?_
  refine C_put (fs := [some (vr 13 21 (1)), some (vr 11 401 (2)), some (vr 11 401 (3)), some (vr 13 401 (4)), some (vi 0)]) .int flX6_23 fpX6_4 (by rw [up_same]; try rfl) (Nat.le_of_ble_eq_true rfl) (fun _ => rfl) (fun _ => rfl) dX6_init_41 ?_
  refine C_toEv (N := 5) (ce := c1T) shT_C (shT_D _) shT_R c1T_cell ?_ (fun v hv => by cases hv) tok_at44
  intro v hv
  simp only [List.mem_cons, List.not_mem_nil, or_false, Option.some.injEq, reduceCtorEq] at hv
  subst hv
  exact VOK_mk (by decide) ⟨by decide, rfl⟩
