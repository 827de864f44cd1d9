/-! ===== Past(): thirty scenes ===== -/
def paF (N : Nat) : Nat → (Nat → Option Nat)
  | 0 => fun _ => none
  | i + 1 => va_up (paF N i) i (some (N + 1 + 5 * i))
def rawS : CE := .inl (5, [some (vi 0), some (vi 0), none, none, none, none])
def paCe (N : Nat) (ce1 : Nat → CE) : Nat → (Nat → CE)
  | 0 => ce1
  | i + 1 => va_up (ceX5 (N + 1 + 5 * i + 1) (N + 1 + 5 * i) (va_up (paCe N ce1 i) (N + 1 + 5 * i) rawS)) N (.inr (15, 30, .inr (.inr (paF N (i + 1)))))
theorem paCe_old {N b : Nat} {ce1 : Nat → CE} (hb : b < N) : ∀ i, paCe N ce1 i b = ce1 b
  | 0 => rfl
  | i + 1 => by
    show va_up (ceX5 (N + 1 + 5 * i + 1) (N + 1 + 5 * i) (va_up (paCe N ce1 i) (N + 1 + 5 * i) rawS)) N _ b = _
    rw [up_ne (by omega), ceX5_old (by omega) (by omega), up_ne (by omega)]
    exact paCe_old hb i
theorem paCe_arr {N : Nat} {ce1 : Nat → CE} (h : ce1 N = .inr (15, 30, .inr (.inr (fun _ => none)))) : ∀ i, paCe N ce1 i N = .inr (15, 30, .inr (.inr (paF N i)))
  | 0 => h
  | i + 1 => up_same
set_option maxHeartbeats 4000000 in
theorem past_loop {d N a : Nat} {ce1 : Nat → CE} (ha : a < N) (hN : N + 200 < 900000) (h1 : ce1 a = .inl (2, [some (vr 15 30 N), some (vi 0), some (vi 0)])) (h2 : ce1 N = .inr (15, 30, .inr (.inr (fun _ => none)))) : ∀ m i, i + m = 30 → EvC (d + 1) yX2_init cX2_init 2 25 [some (vr 2 0 a), some (vi (nI i))] [] (N + 1 + 5 * i) (paCe N ce1 i) (5 * m) (98 * m) (N + 151) (paCe N ce1 30)
  | 0, i, h => by
    have : i = 30 := by omega
    subst this
    refine C_iload_n dX2_init_25 rfl ?_
    refine C_bipush 30 dX2_init_26 (by decide) ?_
    refine C_icmp_ge 50 dX2_init_28 (by decide) (fun _ => ?_) (fun q => absurd (nI_le (Nat.le_refl 30) (by decide)) q)
    exact C_ret dX2_init_50
  | m + 1, i, h => by
    refine C_iload_n dX2_init_25 rfl ?_
    refine C_bipush 30 dX2_init_26 (by decide) ?_
    refine C_icmp_ge 50 dX2_init_28 (by decide) (fun q => absurd q (nI_ge (a := i) (b := 30) (by omega) (by decide))) (fun _ => ?_)
    refine C_aload_n dX2_init_31 rfl ?_
    refine C_getR (fs := [some (vr 15 30 N), some (vi 0), some (vi 0)]) flX2_11 (by rw [paCe_old ha]; exact h1) rfl dX2_init_32 ?_
    refine C_iload_n dX2_init_35 rfl ?_
    refine C_new (kc := 5 * m + 4) (ks := 98 * m + 92) (t := 5) rfl iX5 tyX5 tyX5_ok (ts2 113 rfl rfl) (ts2 73 rfl rfl) (ts1 12 rfl rfl) [some (vi 0), some (vi 0), none, none, none, none] dfX5 dcX5 dX2_init_36 (by omega) ?_
    refine C_dup dX2_init_39 ?_
    refine C_callIN (kc := 5 * m) (ks := 98 * m) [] ilX5 (fun U h => h.2.2.2.2.2.2.1) rfl rfl (Nat.le_of_ble_eq_true rfl) dX2_init_40 ⟨by omega, by omega⟩ (X5_init_ok (by omega) up_same (by omega)) ?_
    refine C_aast (f := paF N i) (by rw [ceX5_old (by omega) (by omega), up_ne (by omega)]; exact paCe_arr h2 i) (ceX5_a (by omega)) (vp_in_nI (by omega) (by decide)) dX2_init_43 ?_
    refine C_iinc (nI (i + 1)) dX2_init_44 rfl (nI_1 i) (okp_of rfl) ?_
    refine C_goto 25 dX2_init_47 (by decide) ?_
    rw [nI_clamp (by omega)]
    exact past_loop ha hN h1 h2 m (i + 1) (by omega)
def ceX2 (N a : Nat) (ce : Nat → CE) : Nat → CE := paCe N (va_up (va_up (va_up (va_up ce N (.inr (15, 30, .inr (.inr (fun _ => none))))) a (.inl (2, [some (vr 15 30 N), some (vi 0), some (vi 0)]))) a (.inl (2, [some (vr 15 30 N), some (vi 0), some (vi 0)]))) a (.inl (2, [some (vr 15 30 N), some (vi 0), some (vi 0)]))) 30
theorem ceX2_a {N a : Nat} {ce : Nat → CE} (ha : a < N) : ceX2 N a ce a = .inl (2, [some (vr 15 30 N), some (vi 0), some (vi 0)]) := by
  unfold ceX2
  rw [paCe_old ha, up_same]
theorem ceX2_old {N a b : Nat} {ce : Nat → CE} (hb : b < N) (hne : b ≠ a) : ceX2 N a ce b = ce b := by
  unfold ceX2
  rw [paCe_old hb, up_ne hne, up_ne hne, up_ne hne, up_ne (by omega)]
set_option maxHeartbeats 4000000 in
set_option maxRecDepth 100000 in
theorem X2_init_ok {d N a : Nat} {ce : Nat → CE} (ha : a < N) (h0 : ce a = .inl (2, [none, some (vi 0), some (vi 0)])) (hN : N + 200 < 900000) : MeC (d + 1) yX2_init cX2_init 2 [vr 2 0 a] N ce 151 2970 (N + 151) (ceX2 N a ce) := by
  refine MeC_of [some (vr 2 0 a), none] rfl (Nat.le_of_ble_eq_true rfl) (by decide) rfl ?_
  refine C_aload_n dX2_init_0 rfl ?_
  refine C_objInit (ts2 112 rfl rfl) (ts1 26 rfl rfl) (ts1 27 rfl rfl) dX2_init_1 (Nat.le_of_ble_eq_true rfl) ?_
  refine C_aload_n dX2_init_4 rfl ?_
  refine C_bipush 30 dX2_init_5 (by decide) ?_
  refine C_newq (kc := 150) (ks := 2940) 30 (ts2 113 rfl rfl) (by decide) (by decide) (by decide) dX2_init_7 (by omega) ?_
  refine C_putF (fs := [none, some (vi 0), some (vi 0)]) (.array (.object "RainLoom$Scene")) flX2_11 fqX2_0 (by rw [up_ne (by omega), h0]) (Nat.le_of_ble_eq_true rfl) (fun _ => rfl) (fun _ => rfl) dX2_init_10 ?_
  refine C_aload_n dX2_init_13 rfl ?_
  refine C_iconst 0 dX2_init_14 (by decide) ?_
  refine C_put (fs := [some (vr 15 30 N), some (vi 0), some (vi 0)]) .int flX2_15 fpX2_1 (by rw [up_same]; try rfl) (Nat.le_of_ble_eq_true rfl) (fun _ => rfl) (fun _ => rfl) dX2_init_15 ?_
  refine C_aload_n dX2_init_18 rfl ?_
  refine C_iconst 0 dX2_init_19 (by decide) ?_
  refine C_put (fs := [some (vr 15 30 N), some (vi 0), some (vi 0)]) .int flX2_19 fpX2_2 (by rw [up_same]; try rfl) (Nat.le_of_ble_eq_true rfl) (fun _ => rfl) (fun _ => rfl) dX2_init_20 ?_
  refine C_iconst 0 dX2_init_23 (by decide) ?_
  refine C_istore_n dX2_init_24 (Nat.le_of_ble_eq_true rfl) (okp_of rfl) ?_
  exact past_loop ha hN up_same (by rw [up_ne (by omega), up_ne (by omega), up_ne (by omega), up_same]) 30 0 (by omega)
