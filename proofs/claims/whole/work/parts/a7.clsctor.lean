/-! ===== RainLoom(): walked ===== -/
def fsC : List (Option V) := [some (vr 12 2000 1), some (vi 0), some (vi (-1)), some (vr 4 0 2), some (vr 3 0 28), some (vr 7 0 47), some (vr 5 0 51), some (vr 5 0 56), some (vr 2 0 61), some (vr 15 3 213), some (vr 14 3 214), some (vr 8 0 215), some (vr 0 0 226), some (vr 11 4 236)]
def slF : Nat → (Nat → Option Nat)
  | 0 => fun _ => none
  | i + 1 => va_up (slF i) i (some (237 + 5 * i))
theorem stC_slot {i : Nat} {g : List (Option V)} {ce : Nat → CE} {x y : CE} (hi : i < 3) (h : MkC (237 + 5 * i) g ce) : MkC (237 + 5 * (i + 1)) g (va_up (ceX5 (237 + 5 * i + 1) (237 + 5 * i) (va_up ce (237 + 5 * i) x)) 213 y) := by
  have hE := EC_slot hi
  refine ⟨by rw [up_ne (by decide), ceX5_old (by omega) (by omega), up_ne (by omega)]; exact h.1, fun b h1 h2 h3 => ?_⟩
  rw [up_ne h3]
  by_cases e : b < 237 + 5 * i
  · rw [ceX5_old (by omega) (by omega), up_ne (by omega)]; exact h.2 b h1 e h3
  · have e2 := hE (b - (237 + 5 * i)) (by omega)
    have c := ceX5_all (b := 237 + 5 * i) (ce := va_up ce (237 + 5 * i) x) (show b - (237 + 5 * i) < 5 by omega)
    rw [show 237 + 5 * i + (b - (237 + 5 * i)) = b by omega] at e2 c
    rw [e2]; exact c
set_option maxHeartbeats 4000000 in
theorem slot_loop {d : Nat} {ce' : Nat → CE} (k : ∀ ce, MkC 252 fsC ce → ce 213 = .inr (15, 3, .inr (.inr (slF 3))) → EvC (d + 6) yX9_init cX9_init 2 163 [some (vr 9 0 0), some (vi 3)] [] 252 ce 0 0 252 ce') : ∀ m i, i + m = 3 → ∀ ce, MkC (237 + 5 * i) fsC ce → ce 213 = .inr (15, 3, .inr (.inr (slF i))) → EvC (d + 6) yX9_init cX9_init 2 139 [some (vr 9 0 0), some (vi (nI i))] [] (237 + 5 * i) ce (5 * m) (98 * m) 252 ce'
  | 0, i, hm, ce, h, hs => by
    have : i = 3 := hm
    subst this
    refine C_iload_n dX9_init_139 rfl ?_
    refine C_iconst 3 dX9_init_140 (by decide) ?_
    refine C_icmp_ge 163 dX9_init_141 (by decide) (fun _ => ?_) (fun q => absurd (nI_le (Nat.le_refl 3) (by decide)) q)
    exact k ce h hs
  | m + 1, i, hm, ce, h, hs => by
    refine C_iload_n dX9_init_139 rfl ?_
    refine C_iconst 3 dX9_init_140 (by decide) ?_
    refine C_icmp_ge 163 dX9_init_141 (by decide) (fun q => absurd q (nI_ge (a := i) (b := 3) (by omega) (by decide))) (fun _ => ?_)
    refine C_aload_n dX9_init_144 rfl ?_
    refine C_getR (fs := fsC) flX9_60 h.1 rfl dX9_init_145 ?_
    refine C_iload_n dX9_init_148 rfl ?_
    refine C_new (kc := 5 * m + 4) (ks := 98 * m + 92) (t := 5) rfl iX5 tyX5 tyX5_ok (ts2 72 rfl rfl) (ts2 73 rfl rfl) (ts1 12 rfl rfl) [some (vi 0), some (vi 0), none, none, none, none] dfX5 dcX5 dX9_init_149 (by omega) ?_
    refine C_dup dX9_init_152 ?_
    refine C_callIN (kc := 5 * m) (ks := 98 * m) [] ilX5 (fun U h => h.2.2.2.1) rfl rfl (Nat.le_of_ble_eq_true rfl) dX9_init_153 ⟨by omega, by omega⟩ (X5_init_ok (by omega) up_same (by omega)) ?_
    refine C_aast (f := slF i) (by rw [ceX5_old (by omega) (by omega), up_ne (by omega)]; exact hs) (ceX5_a (by omega)) (vp_in_nI (by omega) (by decide)) dX9_init_156 ?_
    refine C_iinc (nI (i + 1)) dX9_init_157 rfl (nI_1 i) (okp_of rfl) ?_
    refine C_goto 139 dX9_init_160 (by decide) ?_
    rw [nI_clamp (by omega)]
    exact slot_loop k m (i + 1) (by omega) _ (stC_slot (by omega) h) up_same
def c0C : Nat → CE := fun _ => .inl (9, [none, some (vi 0), some (vi 0), none, none, none, none, none, none, none, none, none, none, none])
set_option maxHeartbeats 4000000 in
set_option maxRecDepth 100000 in
theorem X9_walk {d : Nat} {ce' : Nat → CE} (k : ∀ ce, MkC 252 fsC ce → ce 213 = .inr (15, 3, .inr (.inr (slF 3))) → EvC (d + 6) yX9_init cX9_init 2 163 [some (vr 9 0 0), some (vi 3)] [] 252 ce 0 0 252 ce') : MeC (d + 6) yX9_init cX9_init 2 [vr 9 0 0] 1 c0C 251 14926 252 ce' := by
  refine MeC_of [some (vr 9 0 0), none] rfl (Nat.le_of_ble_eq_true rfl) (by decide) rfl ?_
  refine C_genC (N := 1) (P := MkC 1 [none, some (vi 0), some (vi 0), none, none, none, none, none, none, none, none, none, none, none]) ⟨rfl, fun b h1 h2 => absurd h2 (by omega)⟩ (fun ce h => ?_)
  refine C_aload_n dX9_init_0 rfl ?_
  refine C_objInit (ts1 25 rfl rfl) (ts1 26 rfl rfl) (ts1 27 rfl rfl) dX9_init_1 (Nat.le_of_ble_eq_true rfl) ?_
  refine C_aload_n dX9_init_4 rfl ?_
  refine C_sipush 2000 dX9_init_5 (by decide) ?_
  refine C_newb (kc := 250) (ks := 12926) 2000 (ts1 112 rfl rfl) (by decide) (by decide) (by decide) dX9_init_8 (by decide) ?_
  refine C_putF (fs := [none, some (vi 0), some (vi 0), none, none, none, none, none, none, none, none, none, none, none]) (.array .byte) flX9_9 fqX9_0 (by rw [up_ne (by decide)]; exact h.1) (Nat.le_of_ble_eq_true rfl) (fun _ => rfl) (fun _ => rfl) dX9_init_10 ?_
  refine C_genC (N := 2) (P := MkC 2 [some (vr 12 2000 1), some (vi 0), some (vi 0), none, none, none, none, none, none, none, none, none, none, none]) (stC_arr (by decide) h (Or.inr EC_1.symm)) (fun ce h => ?_)
  refine C_aload_n dX9_init_13 rfl ?_
  refine C_iconst 0 dX9_init_14 (by decide) ?_
  refine C_put (fs := [some (vr 12 2000 1), some (vi 0), some (vi 0), none, none, none, none, none, none, none, none, none, none, none]) .int flX9_13 fpX9_1 (h.1) (Nat.le_of_ble_eq_true rfl) (fun _ => rfl) (fun _ => rfl) dX9_init_15 ?_
  refine C_genC (N := 2) (P := MkC 2 [some (vr 12 2000 1), some (vi 0), some (vi 0), none, none, none, none, none, none, none, none, none, none, none]) (stC_put h) (fun ce h => ?_)
  refine C_aload_n dX9_init_18 rfl ?_
  refine C_iconst (-1) dX9_init_19 (by decide) ?_
  refine C_put (fs := [some (vr 12 2000 1), some (vi 0), some (vi 0), none, none, none, none, none, none, none, none, none, none, none]) .int flX9_17 fpX9_2 (h.1) (Nat.le_of_ble_eq_true rfl) (fun _ => rfl) (fun _ => rfl) dX9_init_20 ?_
  refine C_genC (N := 2) (P := MkC 2 [some (vr 12 2000 1), some (vi 0), some (vi (-1)), none, none, none, none, none, none, none, none, none, none, none]) (stC_put h) (fun ce h => ?_)
  refine C_aload_n dX9_init_23 rfl ?_
  refine C_new (kc := 249) (ks := 12916) (t := 4) rfl iX4 tyX4 tyX4_ok (ts1 28 rfl rfl) (ts1 29 rfl rfl) (ts1 2 rfl rfl) [none, none, some (vi 0), some (vi 0), none, some (vi 0), some (vi 0), some (vi 0), some (vi 0), some (vi 0)] (dfX4) (dcX4) dX9_init_24 (by decide) ?_
  refine C_dup dX9_init_27 ?_
  refine C_callIN (kc := 224) (ks := 9916) (kc2 := 25) (ks2 := 3000) [] ilX4 (fun U h => h.2.2.1) rfl rfl (Nat.le_of_ble_eq_true rfl) dX9_init_28 ⟨by decide, by decide⟩ (X4_init_ok (by decide) up_same (by decide)) ?_
  refine C_putF (fs := [some (vr 12 2000 1), some (vi 0), some (vi (-1)), none, none, none, none, none, none, none, none, none, none, none]) (.object "RainLoom$Reader") flX9_23 fqX9_3 (by rw [ceX4_old (by decide) (by decide), up_ne (by decide)]; exact h.1) (Nat.le_of_ble_eq_true rfl) (fun _ => rfl) (fun _ => rfl) dX9_init_31 ?_
  refine C_genC (N := 28) (P := MkC 28 [some (vr 12 2000 1), some (vi 0), some (vi (-1)), some (vr 4 0 2), none, none, none, none, none, none, none, none, none, none]) (stC_reader h) (fun ce h => ?_)
  refine C_aload_n dX9_init_34 rfl ?_
  refine C_new (kc := 223) (ks := 9900) (t := 3) rfl iX3 tyX3 tyX3_ok (ts2 43 rfl rfl) (ts1 116 rfl rfl) (ts1 8 rfl rfl) [some (vi 0), some (vi 0), some (vi 0), some (vi 0), some (vi 0), some (vi 0), some (vi 0), none, none, none, none, none, none, none, none, none] (dfX3) (dcX3) dX9_init_35 (by decide) ?_
  refine C_dup dX9_init_38 ?_
  refine C_callF (kc := 205) (ks := 8155) (kc2 := 18) (ks2 := 1745) (c0 := c0P) (k := 18) ilX3 (ts2 44 rfl rfl) (Nat.le_of_ble_eq_true rfl) dX9_init_39 (by rw [up_same]; try rfl) (dcX3) (by decide) X3_init_ok ?_
  refine C_put (fs := [some (vr 12 2000 1), some (vi 0), some (vi (-1)), some (vr 4 0 2), none, none, none, none, none, none, none, none, none, none]) (.object "RainLoom$Plan") flX9_30 fpX9_4 (by rw [liftCe_old (by decide) (by decide), up_ne (by decide)]; exact h.1) (Nat.le_of_ble_eq_true rfl) (fun _ => rfl) (fun _ => rfl) dX9_init_42 ?_
  refine C_genC (N := 47) (P := MkC 47 [some (vr 12 2000 1), some (vi 0), some (vi (-1)), some (vr 4 0 2), some (vr 3 0 28), none, none, none, none, none, none, none, none, none]) (stC_plan h) (fun ce h => ?_)
  refine C_aload_n dX9_init_45 rfl ?_
  refine C_new (kc := 204) (ks := 8149) (t := 7) rfl iX7 tyX7 tyX7_ok (ts2 45 rfl rfl) (ts2 46 rfl rfl) (ts1 11 rfl rfl) [none, none, none, none, some (vi 0), some (vi 0)] (dfX7) (dcX7) dX9_init_46 (by decide) ?_
  refine C_dup dX9_init_49 ?_
  refine C_aload_n dX9_init_50 rfl ?_
  refine C_getR (fs := [some (vr 12 2000 1), some (vi 0), some (vi (-1)), some (vr 4 0 2), some (vr 3 0 28), none, none, none, none, none, none, none, none, none]) flX9_30 (by rw [up_ne (by decide)]; exact h.1) rfl dX9_init_51 ?_
  refine C_callI (kc := 201) (ks := 4005) (kc2 := 3) (ks2 := 4144) [_] ilX7 (ts2 47 rfl rfl) rfl rfl (Nat.le_of_ble_eq_true rfl) dX9_init_54 ⟨by decide, by decide⟩ (X7_init_ok (by decide) up_same (by decide)) ?_
  refine C_putF (fs := [some (vr 12 2000 1), some (vi 0), some (vi (-1)), some (vr 4 0 2), some (vr 3 0 28), none, none, none, none, none, none, none, none, none]) (.object "RainLoom$Weaver") flX9_39 fqX9_5 (by rw [ceX7_old (by decide) (by decide), up_ne (by decide)]; exact h.1) (Nat.le_of_ble_eq_true rfl) (fun _ => rfl) (fun _ => rfl) dX9_init_57 ?_
  refine C_genC (N := 51) (P := MkC 51 [some (vr 12 2000 1), some (vi 0), some (vi (-1)), some (vr 4 0 2), some (vr 3 0 28), some (vr 7 0 47), none, none, none, none, none, none, none, none]) (stC_weaver h) (fun ce h => ?_)
  refine C_aload_n dX9_init_60 rfl ?_
  refine C_new (kc := 200) (ks := 3999) (t := 5) rfl iX5 tyX5 tyX5_ok (ts2 72 rfl rfl) (ts2 73 rfl rfl) (ts1 12 rfl rfl) [some (vi 0), some (vi 0), none, none, none, none] (dfX5) (dcX5) dX9_init_61 (by decide) ?_
  refine C_dup dX9_init_64 ?_
  refine C_callIN (kc := 196) (ks := 3907) (kc2 := 4) (ks2 := 92) [] ilX5 (fun U h => h.2.2.2.1) rfl rfl (Nat.le_of_ble_eq_true rfl) dX9_init_65 ⟨by decide, by decide⟩ (X5_init_ok (by decide) up_same (by decide)) ?_
  refine C_putF (fs := [some (vr 12 2000 1), some (vi 0), some (vi (-1)), some (vr 4 0 2), some (vr 3 0 28), some (vr 7 0 47), none, none, none, none, none, none, none, none]) (.object "RainLoom$Scene") flX9_46 fqX9_6 (by rw [ceX5_old (by decide) (by decide), up_ne (by decide)]; exact h.1) (Nat.le_of_ble_eq_true rfl) (fun _ => rfl) (fun _ => rfl) dX9_init_68 ?_
  refine C_genC (N := 56) (P := MkC 56 [some (vr 12 2000 1), some (vi 0), some (vi (-1)), some (vr 4 0 2), some (vr 3 0 28), some (vr 7 0 47), some (vr 5 0 51), none, none, none, none, none, none, none]) (stC_scene (b0 := 51) (by decide) EC_scene h) (fun ce h => ?_)
  refine C_aload_n dX9_init_71 rfl ?_
  refine C_new (kc := 195) (ks := 3901) (t := 5) rfl iX5 tyX5 tyX5_ok (ts2 72 rfl rfl) (ts2 73 rfl rfl) (ts1 12 rfl rfl) [some (vi 0), some (vi 0), none, none, none, none] (dfX5) (dcX5) dX9_init_72 (by decide) ?_
  refine C_dup dX9_init_75 ?_
  refine C_callIN (kc := 191) (ks := 3809) (kc2 := 4) (ks2 := 92) [] ilX5 (fun U h => h.2.2.2.1) rfl rfl (Nat.le_of_ble_eq_true rfl) dX9_init_76 ⟨by decide, by decide⟩ (X5_init_ok (by decide) up_same (by decide)) ?_
  refine C_putF (fs := [some (vr 12 2000 1), some (vi 0), some (vi (-1)), some (vr 4 0 2), some (vr 3 0 28), some (vr 7 0 47), some (vr 5 0 51), none, none, none, none, none, none, none]) (.object "RainLoom$Scene") flX9_50 fqX9_7 (by rw [ceX5_old (by decide) (by decide), up_ne (by decide)]; exact h.1) (Nat.le_of_ble_eq_true rfl) (fun _ => rfl) (fun _ => rfl) dX9_init_79 ?_
  refine C_genC (N := 61) (P := MkC 61 [some (vr 12 2000 1), some (vi 0), some (vi (-1)), some (vr 4 0 2), some (vr 3 0 28), some (vr 7 0 47), some (vr 5 0 51), some (vr 5 0 56), none, none, none, none, none, none]) (stC_scene (b0 := 56) (by decide) EC_trial h) (fun ce h => ?_)
  refine C_aload_n dX9_init_82 rfl ?_
  refine C_new (kc := 190) (ks := 3806) (t := 2) rfl iX2 tyX2 tyX2_ok (ts2 107 rfl rfl) (ts2 108 rfl rfl) (ts1 13 rfl rfl) [none, some (vi 0), some (vi 0)] (dfX2) (dcX2) dX9_init_83 (by decide) ?_
  refine C_dup dX9_init_86 ?_
  refine C_callI (kc := 39) (ks := 836) (kc2 := 151) (ks2 := 2970) [] ilX2 (ts2 109 rfl rfl) rfl rfl (Nat.le_of_ble_eq_true rfl) dX9_init_87 ⟨by decide, by decide⟩ (X2_init_ok (by decide) up_same (by decide)) ?_
  refine C_putF (fs := [some (vr 12 2000 1), some (vi 0), some (vi (-1)), some (vr 4 0 2), some (vr 3 0 28), some (vr 7 0 47), some (vr 5 0 51), some (vr 5 0 56), none, none, none, none, none, none]) (.object "RainLoom$Past") flX9_56 fqX9_8 (by rw [ceX2_old (by decide) (by decide), up_ne (by decide)]; exact h.1) (Nat.le_of_ble_eq_true rfl) (fun _ => rfl) (fun _ => rfl) dX9_init_90 ?_
  refine C_genC (N := 213) (P := MkC 213 [some (vr 12 2000 1), some (vi 0), some (vi (-1)), some (vr 4 0 2), some (vr 3 0 28), some (vr 7 0 47), some (vr 5 0 51), some (vr 5 0 56), some (vr 2 0 61), none, none, none, none, none]) (stC_past h) (fun ce h => ?_)
  refine C_aload_n dX9_init_93 rfl ?_
  refine C_iconst 3 dX9_init_94 (by decide) ?_
  refine C_newq (kc := 38) (ks := 833) 3 (ts2 72 rfl rfl) (by decide) (by decide) (by decide) dX9_init_95 (by decide) ?_
  refine C_putF (fs := [some (vr 12 2000 1), some (vi 0), some (vi (-1)), some (vr 4 0 2), some (vr 3 0 28), some (vr 7 0 47), some (vr 5 0 51), some (vr 5 0 56), some (vr 2 0 61), none, none, none, none, none]) (.array (.object "RainLoom$Scene")) flX9_60 fqX9_9 (by rw [up_ne (by decide)]; exact h.1) (Nat.le_of_ble_eq_true rfl) (fun _ => rfl) (fun _ => rfl) dX9_init_98 ?_
  refine C_genC (N := 214) (P := fun c => MkC 214 [some (vr 12 2000 1), some (vi 0), some (vi (-1)), some (vr 4 0 2), some (vr 3 0 28), some (vr 7 0 47), some (vr 5 0 51), some (vr 5 0 56), some (vr 2 0 61), some (vr 15 3 213), none, none, none, none] c ∧ c 213 = .inr (15, 3, .inr (.inr (fun _ => none)))) ⟨stC_arr (by decide) h (Or.inl rfl), (up_ne (by decide)).trans up_same⟩ (fun ce h => ?_)
  obtain ⟨h, hs⟩ := h
  refine C_aload_n dX9_init_101 rfl ?_
  refine C_iconst 3 dX9_init_102 (by decide) ?_
  refine C_newz (kc := 37) (ks := 830) 3 (ts2 169 rfl rfl) (by decide) (by decide) (by decide) dX9_init_103 (by decide) ?_
  refine C_putF (fs := [some (vr 12 2000 1), some (vi 0), some (vi (-1)), some (vr 4 0 2), some (vr 3 0 28), some (vr 7 0 47), some (vr 5 0 51), some (vr 5 0 56), some (vr 2 0 61), some (vr 15 3 213), none, none, none, none]) (.array .boolean) flX9_64 fqX9_10 (by rw [up_ne (by decide)]; exact h.1) (Nat.le_of_ble_eq_true rfl) (fun _ => rfl) (fun _ => rfl) dX9_init_105 ?_
  refine C_genC (N := 215) (P := fun c => MkC 215 [some (vr 12 2000 1), some (vi 0), some (vi (-1)), some (vr 4 0 2), some (vr 3 0 28), some (vr 7 0 47), some (vr 5 0 51), some (vr 5 0 56), some (vr 2 0 61), some (vr 15 3 213), some (vr 14 3 214), none, none, none] c ∧ c 213 = .inr (15, 3, .inr (.inr (fun _ => none)))) ⟨stC_arr (by decide) h (Or.inr (EC_l (a := 191) (by decide) (by decide) rfl (by decide +kernel) (by decide) (by decide) (by decide)).symm), (up_ne (by decide)).trans ((up_ne (by decide)).trans hs)⟩ (fun ce h => ?_)
  obtain ⟨h, hs⟩ := h
  refine C_aload_n dX9_init_108 rfl ?_
  refine C_new (kc := 36) (ks := 820) (t := 8) rfl iX8 tyX8 tyX8_ok (ts2 127 rfl rfl) (ts2 128 rfl rfl) (ts1 14 rfl rfl) [none, none, none, some (vi 0), some (vi 0), some (vi 0), none, none, some (vi 0), none] (dfX8) (dcX8) dX9_init_109 (by decide) ?_
  refine C_dup dX9_init_112 ?_
  refine C_callIN (kc := 26) (ks := 362) (kc2 := 10) (ks2 := 458) [] ilX8 (fun U h => h.2.2.2.2.1) rfl rfl (Nat.le_of_ble_eq_true rfl) dX9_init_113 ⟨by decide, by decide⟩ (X8_init_ok (by decide) up_same (by decide)) ?_
  refine C_putF (fs := [some (vr 12 2000 1), some (vi 0), some (vi (-1)), some (vr 4 0 2), some (vr 3 0 28), some (vr 7 0 47), some (vr 5 0 51), some (vr 5 0 56), some (vr 2 0 61), some (vr 15 3 213), some (vr 14 3 214), none, none, none]) (.object "RainLoom$Witness") flX9_71 fqX9_11 (by rw [ceX8_old (by decide) (by decide), up_ne (by decide)]; exact h.1) (Nat.le_of_ble_eq_true rfl) (fun _ => rfl) (fun _ => rfl) dX9_init_116 ?_
  refine C_genC (N := 226) (P := fun c => MkC 226 [some (vr 12 2000 1), some (vi 0), some (vi (-1)), some (vr 4 0 2), some (vr 3 0 28), some (vr 7 0 47), some (vr 5 0 51), some (vr 5 0 56), some (vr 2 0 61), some (vr 15 3 213), some (vr 14 3 214), some (vr 8 0 215), none, none] c ∧ c 213 = .inr (15, 3, .inr (.inr (fun _ => none)))) ⟨stC_witness h, (up_ne (by decide)).trans ((ceX8_old (by decide) (by decide)).trans ((up_ne (by decide)).trans hs))⟩ (fun ce h => ?_)
  obtain ⟨h, hs⟩ := h
  refine C_aload_n dX9_init_119 rfl ?_
  refine C_new (kc := 25) (ks := 355) (t := 0) rfl iX0 tyX0 tyX0_ok (ts2 170 rfl rfl) (ts2 171 rfl rfl) (ts1 15 rfl rfl) [none, none, none, none, some (vi 0), some (vi 0), some (vi 0)] (dfX0) (dcX0) dX9_init_120 (by decide) ?_
  refine C_dup dX9_init_123 ?_
  refine C_callIN (kc := 16) (ks := 298) (kc2 := 9) (ks2 := 57) [] ilX0 (fun U h => h.2.2.2.2.2.1) rfl rfl (Nat.le_of_ble_eq_true rfl) dX9_init_124 ⟨by decide, by decide⟩ (X0_init_ok (by decide) up_same (by decide)) ?_
  refine C_putF (fs := [some (vr 12 2000 1), some (vi 0), some (vi (-1)), some (vr 4 0 2), some (vr 3 0 28), some (vr 7 0 47), some (vr 5 0 51), some (vr 5 0 56), some (vr 2 0 61), some (vr 15 3 213), some (vr 14 3 214), some (vr 8 0 215), none, none]) (.object "RainLoom$Cutter") flX9_78 fqX9_12 (by rw [ceX0_old (by decide) (by decide), up_ne (by decide)]; exact h.1) (Nat.le_of_ble_eq_true rfl) (fun _ => rfl) (fun _ => rfl) dX9_init_127 ?_
  refine C_genC (N := 236) (P := fun c => MkC 236 [some (vr 12 2000 1), some (vi 0), some (vi (-1)), some (vr 4 0 2), some (vr 3 0 28), some (vr 7 0 47), some (vr 5 0 51), some (vr 5 0 56), some (vr 2 0 61), some (vr 15 3 213), some (vr 14 3 214), some (vr 8 0 215), some (vr 0 0 226), none] c ∧ c 213 = .inr (15, 3, .inr (.inr (fun _ => none)))) ⟨stC_cutter h, (up_ne (by decide)).trans ((ceX0_old (by decide) (by decide)).trans ((up_ne (by decide)).trans hs))⟩ (fun ce h => ?_)
  obtain ⟨h, hs⟩ := h
  refine C_aload_n dX9_init_130 rfl ?_
  refine C_iconst 4 dX9_init_131 (by decide) ?_
  refine C_newi (kc := 15) (ks := 294) 4 (ts1 114 rfl rfl) (by decide) (by decide) (by decide) dX9_init_132 (by decide) ?_
  refine C_putF (fs := [some (vr 12 2000 1), some (vi 0), some (vi (-1)), some (vr 4 0 2), some (vr 3 0 28), some (vr 7 0 47), some (vr 5 0 51), some (vr 5 0 56), some (vr 2 0 61), some (vr 15 3 213), some (vr 14 3 214), some (vr 8 0 215), some (vr 0 0 226), none]) (.array .int) flX9_82 fqX9_13 (by rw [up_ne (by decide)]; exact h.1) (Nat.le_of_ble_eq_true rfl) (fun _ => rfl) (fun _ => rfl) dX9_init_134 ?_
  refine C_genC (N := 237) (P := fun c => MkC 237 [some (vr 12 2000 1), some (vi 0), some (vi (-1)), some (vr 4 0 2), some (vr 3 0 28), some (vr 7 0 47), some (vr 5 0 51), some (vr 5 0 56), some (vr 2 0 61), some (vr 15 3 213), some (vr 14 3 214), some (vr 8 0 215), some (vr 0 0 226), some (vr 11 4 236)] c ∧ c 213 = .inr (15, 3, .inr (.inr (fun _ => none)))) ⟨stC_arr (by decide) h (Or.inr (EC_l (a := 213) (by decide) (by decide) rfl (by decide +kernel) (by decide) (by decide) (by decide)).symm), (up_ne (by decide)).trans ((up_ne (by decide)).trans hs)⟩ (fun ce h => ?_)
  obtain ⟨h, hs⟩ := h
  refine C_iconst 0 dX9_init_137 (by decide) ?_
  refine C_istore_n dX9_init_138 (Nat.le_of_ble_eq_true rfl) (okp_of rfl) ?_
  exact slot_loop k 3 0 (by decide) ce h hs
