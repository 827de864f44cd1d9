theorem liftCe_old {N a b k : Nat} {ce c1 : Nat → CE} (h1 : b < N) (h2 : b ≠ a) : liftCe N a k ce c1 b = ce b := by
  unfold liftCe
  rw [if_neg h2, if_neg (by omega)]
def ceX4 (N a : Nat) (ce : Nat → CE) : Nat → CE := (va_up (va_up (va_up (va_up (va_up (va_up (va_up (va_up (va_up (va_up (liftCe (N + 6) (N + 5) 18 (va_up (va_up (liftCe (N + 1) (N) 4 (va_up ce (N) (.inl (6, [none, none, none, none, some (vi 0)]))) (ceOf shT μT)) (a) (.inl (4, [some (vr 6 0 (N)), none, some (vi 0), some (vi 0), none, some (vi 0), some (vi 0), some (vi 0), some (vi 0), some (vi 0)]))) (N + 5) (.inl (3, [some (vi 0), some (vi 0), some (vi 0), some (vi 0), some (vi 0), some (vi 0), some (vi 0), none, none, none, none, none, none, none, none, none]))) (ceOf shP (clrP 0 μZ))) (a) (.inl (4, [some (vr 6 0 (N)), some (vr 3 0 (N + 5)), some (vi 0), some (vi 0), none, some (vi 0), some (vi 0), some (vi 0), some (vi 0), some (vi 0)]))) (a) (.inl (4, [some (vr 6 0 (N)), some (vr 3 0 (N + 5)), some (vi 0), some (vi 0), none, some (vi 0), some (vi 0), some (vi 0), some (vi 0), some (vi 0)]))) (a) (.inl (4, [some (vr 6 0 (N)), some (vr 3 0 (N + 5)), some (vi 0), some (vi 32), none, some (vi 0), some (vi 0), some (vi 0), some (vi 0), some (vi 0)]))) (N + 24) (.inr (13, 10, .inr (.inl (fun _ => 0))))) (a) (.inl (4, [some (vr 6 0 (N)), some (vr 3 0 (N + 5)), some (vi 0), some (vi 32), some (vr 13 10 (N + 24)), some (vi 0), some (vi 0), some (vi 0), some (vi 0), some (vi 0)]))) (a) (.inl (4, [some (vr 6 0 (N)), some (vr 3 0 (N + 5)), some (vi 0), some (vi 32), some (vr 13 10 (N + 24)), some (vi 0), some (vi 0), some (vi 0), some (vi 0), some (vi 0)]))) (a) (.inl (4, [some (vr 6 0 (N)), some (vr 3 0 (N + 5)), some (vi 0), some (vi 32), some (vr 13 10 (N + 24)), some (vi 0), some (vi 0), some (vi 0), some (vi 0), some (vi 0)]))) (a) (.inl (4, [some (vr 6 0 (N)), some (vr 3 0 (N + 5)), some (vi 0), some (vi 32), some (vr 13 10 (N + 24)), some (vi 0), some (vi 0), some (vi (-1)), some (vi 0), some (vi 0)]))) (a) (.inl (4, [some (vr 6 0 (N)), some (vr 3 0 (N + 5)), some (vi 0), some (vi 32), some (vr 13 10 (N + 24)), some (vi 0), some (vi 0), some (vi (-1)), some (vi 0), some (vi 0)]))) (a) (.inl (4, [some (vr 6 0 (N)), some (vr 3 0 (N + 5)), some (vi 0), some (vi 32), some (vr 13 10 (N + 24)), some (vi 0), some (vi 0), some (vi (-1)), some (vi 0), some (vi (-1))])))
theorem ceX4_a {N a : Nat} {ce : Nat → CE} (ha : a < N) : ceX4 N a ce a = .inl (4, [some (vr 6 0 (N)), some (vr 3 0 (N + 5)), some (vi 0), some (vi 32), some (vr 13 10 (N + 24)), some (vi 0), some (vi 0), some (vi (-1)), some (vi 0), some (vi (-1))]) := by
  unfold ceX4
  rw [up_same]
theorem ceX4_old {N a b : Nat} {ce : Nat → CE} (hb : b < N) (hne : b ≠ a) : ceX4 N a ce b = ce b := by
  unfold ceX4
  rw [up_ne (by omega), up_ne (by omega), up_ne (by omega), up_ne (by omega), up_ne (by omega), up_ne (by omega), up_ne (by omega), up_ne (by omega), up_ne (by omega), up_ne (by omega), liftCe_old (by omega) (by omega), up_ne (by omega), up_ne (by omega), liftCe_old (by omega) (by omega), up_ne (by omega)]
theorem ceX4_n24 {N a : Nat} {ce : Nat → CE} (ha : a < N) : ceX4 N a ce (N + 24) = .inr (13, 10, .inr (.inl (fun _ => 0))) := by
  unfold ceX4
  rw [up_ne (by omega), up_ne (by omega), up_ne (by omega), up_ne (by omega), up_ne (by omega), up_ne (by omega), up_same]
set_option maxHeartbeats 4000000 in
set_option maxRecDepth 100000 in
theorem X4_init_ok {d N a : Nat} {ce : Nat → CE} (ha : a < N) (h0 : ce a = .inl (4, [none, none, some (vi 0), some (vi 0), none, some (vi 0), some (vi 0), some (vi 0), some (vi 0), some (vi 0)])) (hN : N + 25 < 900000) : MeC (d + 5) yX4_init cX4_init 1 [vr 4 0 a] N ce 25 3000 (N + 25) (ceX4 N a ce) := by
  refine MeC_of [some (vr 4 0 a)] rfl (Nat.le_of_ble_eq_true rfl) (by decide) rfl ?_
  refine C_aload_n dX4_init_0 rfl ?_
  refine C_objInit (ts1 33 rfl rfl) (ts1 26 rfl rfl) (ts1 27 rfl rfl) dX4_init_1 (Nat.le_of_ble_eq_true rfl) ?_
  refine C_aload_n dX4_init_4 rfl ?_
  refine C_new (kc := 24) (ks := 2995) (t := 6) rfl iX6 tyX6 tyX6_ok (ts1 34 rfl rfl) (ts1 35 rfl rfl) (ts1 3 rfl rfl) [none, none, none, none, some (vi 0)] (dfX6) (dcX6) dX4_init_5 (by omega) ?_
  refine C_dup dX4_init_8 ?_
  refine C_callF (kc := 20) (ks := 1771) (c0 := c0T) (k := 4) ilX6 (ts1 36 rfl rfl) (Nat.le_of_ble_eq_true rfl) dX4_init_9 (by rw [up_same]; try rfl) (dcX6) (by omega) X6_init_ok ?_
  refine C_putF (fs := [none, none, some (vi 0), some (vi 0), none, some (vi 0), some (vi 0), some (vi 0), some (vi 0), some (vi 0)]) (.object "RainLoom$Tokens") flX4_12 fqX4_0 (by rw [liftCe_old (by omega) (by omega), up_ne (by omega), h0]; try rfl) (Nat.le_of_ble_eq_true rfl) (fun _ => rfl) (fun _ => rfl) dX4_init_12 ?_
  refine C_aload_n dX4_init_15 rfl ?_
  refine C_new (kc := 19) (ks := 1755) (t := 3) rfl iX3 tyX3 tyX3_ok (ts1 115 rfl rfl) (ts1 116 rfl rfl) (ts1 8 rfl rfl) [some (vi 0), some (vi 0), some (vi 0), some (vi 0), some (vi 0), some (vi 0), some (vi 0), none, none, none, none, none, none, none, none, none] (dfX3) (dcX3) dX4_init_16 (by omega) ?_
  refine C_dup dX4_init_19 ?_
  refine C_callF (kc := 1) (ks := 10) (c0 := c0P) (k := 18) ilX3 (ts1 117 rfl rfl) (Nat.le_of_ble_eq_true rfl) dX4_init_20 (by rw [up_same]; try rfl) (dcX3) (by omega) X3_init_ok ?_
  refine C_put (fs := [some (vr 6 0 (N)), none, some (vi 0), some (vi 0), none, some (vi 0), some (vi 0), some (vi 0), some (vi 0), some (vi 0)]) (.object "RainLoom$Plan") flX4_21 fpX4_1 (by rw [liftCe_old (by omega) (by omega), up_ne (by omega), up_same]; try rfl) (Nat.le_of_ble_eq_true rfl) (fun _ => rfl) (fun _ => rfl) dX4_init_23 ?_
  refine C_aload_n dX4_init_26 rfl ?_
  refine C_iconst 0 dX4_init_27 (by decide) ?_
  refine C_put (fs := [some (vr 6 0 (N)), some (vr 3 0 (N + 5)), some (vi 0), some (vi 0), none, some (vi 0), some (vi 0), some (vi 0), some (vi 0), some (vi 0)]) .int flX4_25 fpX4_2 (by rw [up_same]; try rfl) (Nat.le_of_ble_eq_true rfl) (fun _ => rfl) (fun _ => rfl) dX4_init_28 ?_
  refine C_aload_n dX4_init_31 rfl ?_
  refine C_bipush 32 dX4_init_32 (by decide) ?_
  refine C_put (fs := [some (vr 6 0 (N)), some (vr 3 0 (N + 5)), some (vi 0), some (vi 0), none, some (vi 0), some (vi 0), some (vi 0), some (vi 0), some (vi 0)]) .int flX4_29 fpX4_3 (by rw [up_same]; try rfl) (Nat.le_of_ble_eq_true rfl) (fun _ => rfl) (fun _ => rfl) dX4_init_34 ?_
  refine C_aload_n dX4_init_37 rfl ?_
  refine C_bipush 10 dX4_init_38 (by decide) ?_
  refine C_newl (kc := 0) (ks := 0) 10 (ts1 113 rfl rfl) (by decide) (by decide) (by decide) dX4_init_40 (by omega) ?_
  refine C_putF (fs := [some (vr 6 0 (N)), some (vr 3 0 (N + 5)), some (vi 0), some (vi 32), none, some (vi 0), some (vi 0), some (vi 0), some (vi 0), some (vi 0)]) (.array .long) flX4_32 fqX4_4 (by rw [up_ne (by omega), up_same]; try rfl) (Nat.le_of_ble_eq_true rfl) (fun _ => rfl) (fun _ => rfl) dX4_init_42 ?_
  refine C_aload_n dX4_init_45 rfl ?_
  refine C_iconst 0 dX4_init_46 (by decide) ?_
  refine C_put (fs := [some (vr 6 0 (N)), some (vr 3 0 (N + 5)), some (vi 0), some (vi 32), some (vr 13 10 (N + 24)), some (vi 0), some (vi 0), some (vi 0), some (vi 0), some (vi 0)]) .int flX4_36 fpX4_5 (by rw [up_same]; try rfl) (Nat.le_of_ble_eq_true rfl) (fun _ => rfl) (fun _ => rfl) dX4_init_47 ?_
  refine C_aload_n dX4_init_50 rfl ?_
  refine C_iconst 0 dX4_init_51 (by decide) ?_
  refine C_put (fs := [some (vr 6 0 (N)), some (vr 3 0 (N + 5)), some (vi 0), some (vi 32), some (vr 13 10 (N + 24)), some (vi 0), some (vi 0), some (vi 0), some (vi 0), some (vi 0)]) .int flX4_39 fpX4_6 (by rw [up_same]; try rfl) (Nat.le_of_ble_eq_true rfl) (fun _ => rfl) (fun _ => rfl) dX4_init_52 ?_
  refine C_aload_n dX4_init_55 rfl ?_
  refine C_iconst (-1) dX4_init_56 (by decide) ?_
  refine C_put (fs := [some (vr 6 0 (N)), some (vr 3 0 (N + 5)), some (vi 0), some (vi 32), some (vr 13 10 (N + 24)), some (vi 0), some (vi 0), some (vi 0), some (vi 0), some (vi 0)]) .int flX4_42 fpX4_7 (by rw [up_same]; try rfl) (Nat.le_of_ble_eq_true rfl) (fun _ => rfl) (fun _ => rfl) dX4_init_57 ?_
  refine C_aload_n dX4_init_60 rfl ?_
  refine C_iconst 0 dX4_init_61 (by decide) ?_
  refine C_put (fs := [some (vr 6 0 (N)), some (vr 3 0 (N + 5)), some (vi 0), some (vi 32), some (vr 13 10 (N + 24)), some (vi 0), some (vi 0), some (vi (-1)), some (vi 0), some (vi 0)]) .int flX4_45 fpX4_8 (by rw [up_same]; try rfl) (Nat.le_of_ble_eq_true rfl) (fun _ => rfl) (fun _ => rfl) dX4_init_62 ?_
  refine C_aload_n dX4_init_65 rfl ?_
  refine C_iconst (-1) dX4_init_66 (by decide) ?_
  refine C_put (fs := [some (vr 6 0 (N)), some (vr 3 0 (N + 5)), some (vi 0), some (vi 32), some (vr 13 10 (N + 24)), some (vi 0), some (vi 0), some (vi (-1)), some (vi 0), some (vi 0)]) .int flX4_48 fpX4_9 (by rw [up_same]; try rfl) (Nat.le_of_ble_eq_true rfl) (fun _ => rfl) (fun _ => rfl) dX4_init_67 ?_
  exact C_ret dX4_init_70
