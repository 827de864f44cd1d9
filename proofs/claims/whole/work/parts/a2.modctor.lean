/-! ===== RainLoomModel(): the arrays ===== -/
def shM (a : Nat) : Nat × Nat := [(10, 0), (12, 2000), (12, 2000), (11, 403), (11, 403), (11, 403), (13, 403), (13, 21), (13, 10), (11, 2), (11, 2), (11, 96), (11, 2), (11, 12), (11, 12), (11, 2), (11, 8), (11, 8), (11, 2), (11, 2), (11, 2), (11, 6), (11, 6), (14, 260), (11, 260), (11, 260), (11, 260), (11, 260), (11, 840), (11, 840), (11, 64), (11, 9), (11, 400), (11, 92), (11, 92), (11, 2760), (11, 4), (11, 4), (11, 4), (11, 24), (11, 24), (11, 20), (11, 20), (14, 256), (11, 10), (14, 3), (11, 276)].getD a (11, 0)
theorem shM_C : Closed 47 shM := ⟨by decide +kernel, by decide +kernel, by decide +kernel⟩
theorem shM_D (μ : Mem) : Dyn 47 shM μ := by
  intro a ha ht k hk hf
  exact absurd hf ((by decide +kernel : ∀ a, a < 47 → (shM a).1 < 11 → ∀ k, k < nf (shM a).1 → ¬ (ft (shM a).1 k).1 = 3) a ha ht k hk)
theorem shM_R : ∀ a, a < 47 → 15 ≤ (shM a).1 → False := by decide +kernel
theorem shM_A : ∀ a, 1 ≤ a → a < 47 → 11 ≤ (shM a).1 ∧ (shM a).1 < 15 := fun a h1 h2 => (by decide +kernel : ∀ a, a < 47 → 1 ≤ a → 11 ≤ (shM a).1 ∧ (shM a).1 < 15) a h2 h1
/-- the model's fields when j arrays stand; p: its place -/
def fsM (p : Int32) (j : Nat) : List (Option V) := (List.range 72).map fun k => if (ft 10 k).1 = 0 then some (vi (if k = 17 then p else 0)) else if (ft 10 k).2.2.2 ≤ j then some (vr (ft 10 k).2.1 (ft 10 k).2.2.1 (ft 10 k).2.2.2) else none
theorem fsM_l (p : Int32) (j : Nat) : (fsM p j).length = 72 := by unfold fsM; rw [List.length_map, List.length_range]
def zc (q : Nat × Nat) : CE := .inr (q.1, q.2, if q.1 = 13 then .inr (.inl (fun _ => 0)) else .inl (fun _ => 0))
def MkM (N : Nat) (fs : List (Option V)) (ce : Nat → CE) : Prop := ce 0 = .inl (10, fs) ∧ ∀ b, 1 ≤ b → b < N → ce b = zc (shM b)
theorem MkM.nx {N : Nat} {fs fs' g : List (Option V)} {ce : Nat → CE} {x : CE} (hN : 1 ≤ N) (h : MkM N g ce) (hx : x = zc (shM N)) (e : fs' = fs) : MkM (N + 1) fs' (va_up (va_up ce N x) 0 (.inl (10, fs))) := by
  subst e
  refine ⟨up_same, fun b h1 h2 => ?_⟩
  rw [up_ne (by omega)]
  by_cases q : b = N
  · rw [q, up_same]; exact hx
  · rw [up_ne q]; exact h.2 b h1 (by omega)
theorem MkM.pp {N : Nat} {fs fs' g : List (Option V)} {ce : Nat → CE} (h : MkM N g ce) (e : fs' = fs) : MkM N fs' (va_up ce 0 (.inl (10, fs))) := by
  subst e
  exact ⟨up_same, fun b h1 h2 => by rw [up_ne (by omega)]; exact h.2 b h1 h2⟩
theorem C_genM {d : Nat} {y : MethodName} {cc : ByteArray} {nL : Nat} {pc : Nat} {ls : List (Option V)} {st : List V} {N : Nat} {ce : Nat → CE} {kc ks N' : Nat} {ce' : Nat → CE} {fs : List (Option V)} (h : MkM N fs ce) (k : ∀ ce1, MkM N fs ce1 → EvC d y cc nL pc ls st N ce1 kc ks N' ce') : EvC d y cc nL pc ls st N ce kc ks N' ce' := k ce h
def c0M : Nat → CE := fun _ => .inl (10, fsM 0 0)
set_option maxHeartbeats 4000000 in
set_option maxRecDepth 100000 in
theorem X10_walk {d : Nat} {ce' : Nat → CE} (k : ∀ ce, MkM 47 (fsM (-1) 46) ce → EvC (d + 1) yX10_init cX10_init 1 383 [some (vr 10 0 0)] [] 47 ce 0 0 47 ce') : MeC (d + 1) yX10_init cX10_init 1 [vr 10 0 0] 1 c0M 46 12847 47 ce' := by
  refine MeC_of [some (vr 10 0 0)] rfl (Nat.le_of_ble_eq_true rfl) (by decide) rfl ?_
  refine C_genM (fs := fsM 0 0) ⟨rfl, fun b h1 h2 => absurd h2 (by omega)⟩ (fun ce h0 => ?_)
  refine C_aload_n dX10_init_0 rfl ?_
  refine C_objInit (ts5 189 rfl rfl) (ts1 26 rfl rfl) (ts1 27 rfl rfl) dX10_init_1 (Nat.le_of_ble_eq_true rfl) ?_
  refine C_aload_n dX10_init_4 rfl ?_
  refine C_sipush 2000 dX10_init_5 (by decide) ?_
  refine C_newb (kc := 45) (ks := 10847) 2000 (ts1 112 rfl rfl) (by decide) (by decide) (by decide) dX10_init_8 (by omega) ?_
  refine C_putF (fs := fsM 0 0) (.array .byte) flX10_13 fqX10_1 ((up_ne (by decide)).trans h0.1) (by rw [fsM_l]; decide) (fun _ => rfl) (fun _ => rfl) dX10_init_10 ?_
  refine C_genM (N := 2) (MkM.nx (fs' := fsM 0 1) (by decide) h0 rfl (by decide +kernel)) (fun ce h1 => ?_)
  clear h0
  refine C_aload_n dX10_init_13 rfl ?_
  refine C_sipush 2000 dX10_init_14 (by decide) ?_
  refine C_newb (kc := 44) (ks := 8847) 2000 (ts1 112 rfl rfl) (by decide) (by decide) (by decide) dX10_init_17 (by omega) ?_
  refine C_putF (fs := fsM 0 1) (.array .byte) flX10_17 fqX10_3 ((up_ne (by decide)).trans h1.1) (by rw [fsM_l]; decide) (fun _ => rfl) (fun _ => rfl) dX10_init_19 ?_
  refine C_genM (N := 3) (MkM.nx (fs' := fsM 0 2) (by decide) h1 rfl (by decide +kernel)) (fun ce h2 => ?_)
  clear h1
  refine C_aload_n dX10_init_22 rfl ?_
  refine C_sipush 403 dX10_init_23 (by decide) ?_
  refine C_newi (kc := 43) (ks := 8444) 403 (ts1 114 rfl rfl) (by decide) (by decide) (by decide) dX10_init_26 (by omega) ?_
  refine C_putF (fs := fsM 0 2) (.array .int) flX10_20 fqX10_5 ((up_ne (by decide)).trans h2.1) (by rw [fsM_l]; decide) (fun _ => rfl) (fun _ => rfl) dX10_init_28 ?_
  refine C_genM (N := 4) (MkM.nx (fs' := fsM 0 3) (by decide) h2 rfl (by decide +kernel)) (fun ce h3 => ?_)
  clear h2
  refine C_aload_n dX10_init_31 rfl ?_
  refine C_sipush 403 dX10_init_32 (by decide) ?_
  refine C_newi (kc := 42) (ks := 8041) 403 (ts1 114 rfl rfl) (by decide) (by decide) (by decide) dX10_init_35 (by omega) ?_
  refine C_putF (fs := fsM 0 3) (.array .int) flX10_24 fqX10_6 ((up_ne (by decide)).trans h3.1) (by rw [fsM_l]; decide) (fun _ => rfl) (fun _ => rfl) dX10_init_37 ?_
  refine C_genM (N := 5) (MkM.nx (fs' := fsM 0 4) (by decide) h3 rfl (by decide +kernel)) (fun ce h4 => ?_)
  clear h3
  refine C_aload_n dX10_init_40 rfl ?_
  refine C_sipush 403 dX10_init_41 (by decide) ?_
  refine C_newi (kc := 41) (ks := 7638) 403 (ts1 114 rfl rfl) (by decide) (by decide) (by decide) dX10_init_44 (by omega) ?_
  refine C_putF (fs := fsM 0 4) (.array .int) flX10_27 fqX10_7 ((up_ne (by decide)).trans h4.1) (by rw [fsM_l]; decide) (fun _ => rfl) (fun _ => rfl) dX10_init_46 ?_
  refine C_genM (N := 6) (MkM.nx (fs' := fsM 0 5) (by decide) h4 rfl (by decide +kernel)) (fun ce h5 => ?_)
  clear h4
  refine C_aload_n dX10_init_49 rfl ?_
  refine C_sipush 403 dX10_init_50 (by decide) ?_
  refine C_newl (kc := 40) (ks := 7235) 403 (ts1 113 rfl rfl) (by decide) (by decide) (by decide) dX10_init_53 (by omega) ?_
  refine C_putF (fs := fsM 0 5) (.array .long) flX10_30 fqX10_8 ((up_ne (by decide)).trans h5.1) (by rw [fsM_l]; decide) (fun _ => rfl) (fun _ => rfl) dX10_init_55 ?_
  refine C_genM (N := 7) (MkM.nx (fs' := fsM 0 6) (by decide) h5 rfl (by decide +kernel)) (fun ce h6 => ?_)
  clear h5
  refine C_aload_n dX10_init_58 rfl ?_
  refine C_bipush 21 dX10_init_59 (by decide) ?_
  refine C_newl (kc := 39) (ks := 7214) 21 (ts1 113 rfl rfl) (by decide) (by decide) (by decide) dX10_init_61 (by omega) ?_
  refine C_putF (fs := fsM 0 6) (.array .long) flX10_34 fqX10_9 ((up_ne (by decide)).trans h6.1) (by rw [fsM_l]; decide) (fun _ => rfl) (fun _ => rfl) dX10_init_63 ?_
  refine C_genM (N := 8) (MkM.nx (fs' := fsM 0 7) (by decide) h6 rfl (by decide +kernel)) (fun ce h7 => ?_)
  clear h6
  refine C_aload_n dX10_init_66 rfl ?_
  refine C_iconst (-1) dX10_init_67 (by decide) ?_
  refine C_put (fs := fsM 0 7) .int flX10_37 fpX10_17 h7.1 (by rw [fsM_l]; decide) (fun _ => rfl) (fun _ => rfl) dX10_init_68 ?_
  refine C_genM (MkM.pp (fs' := fsM (-1) 7) h7 (by decide +kernel)) (fun ce h7 => ?_)
  refine C_aload_n dX10_init_71 rfl ?_
  refine C_bipush 10 dX10_init_72 (by decide) ?_
  refine C_newl (kc := 38) (ks := 7204) 10 (ts1 113 rfl rfl) (by decide) (by decide) (by decide) dX10_init_74 (by omega) ?_
  refine C_putF (fs := fsM (-1) 7) (.array .long) flX10_40 fqX10_21 ((up_ne (by decide)).trans h7.1) (by rw [fsM_l]; decide) (fun _ => rfl) (fun _ => rfl) dX10_init_76 ?_
  refine C_genM (N := 9) (MkM.nx (fs' := fsM (-1) 8) (by decide) h7 rfl (by decide +kernel)) (fun ce h8 => ?_)
  clear h7
  refine C_aload_n dX10_init_79 rfl ?_
  refine C_iconst 2 dX10_init_80 (by decide) ?_
  refine C_newi (kc := 37) (ks := 7202) 2 (ts1 114 rfl rfl) (by decide) (by decide) (by decide) dX10_init_81 (by omega) ?_
  refine C_putF (fs := fsM (-1) 8) (.array .int) flX10_43 fqX10_22 ((up_ne (by decide)).trans h8.1) (by rw [fsM_l]; decide) (fun _ => rfl) (fun _ => rfl) dX10_init_83 ?_
  refine C_genM (N := 10) (MkM.nx (fs' := fsM (-1) 9) (by decide) h8 rfl (by decide +kernel)) (fun ce h9 => ?_)
  clear h8
  refine C_aload_n dX10_init_86 rfl ?_
  refine C_iconst 2 dX10_init_87 (by decide) ?_
  refine C_newi (kc := 36) (ks := 7200) 2 (ts1 114 rfl rfl) (by decide) (by decide) (by decide) dX10_init_88 (by omega) ?_
  refine C_putF (fs := fsM (-1) 9) (.array .int) flX10_46 fqX10_23 ((up_ne (by decide)).trans h9.1) (by rw [fsM_l]; decide) (fun _ => rfl) (fun _ => rfl) dX10_init_90 ?_
  refine C_genM (N := 11) (MkM.nx (fs' := fsM (-1) 10) (by decide) h9 rfl (by decide +kernel)) (fun ce h10 => ?_)
  clear h9
  refine C_aload_n dX10_init_93 rfl ?_
  refine C_bipush 96 dX10_init_94 (by decide) ?_
  refine C_newi (kc := 35) (ks := 7104) 96 (ts1 114 rfl rfl) (by decide) (by decide) (by decide) dX10_init_96 (by omega) ?_
  refine C_putF (fs := fsM (-1) 10) (.array .int) flX10_49 fqX10_24 ((up_ne (by decide)).trans h10.1) (by rw [fsM_l]; decide) (fun _ => rfl) (fun _ => rfl) dX10_init_98 ?_
  refine C_genM (N := 12) (MkM.nx (fs' := fsM (-1) 11) (by decide) h10 rfl (by decide +kernel)) (fun ce h11 => ?_)
  clear h10
  refine C_aload_n dX10_init_101 rfl ?_
  refine C_iconst 2 dX10_init_102 (by decide) ?_
  refine C_newi (kc := 34) (ks := 7102) 2 (ts1 114 rfl rfl) (by decide) (by decide) (by decide) dX10_init_103 (by omega) ?_
  refine C_putF (fs := fsM (-1) 11) (.array .int) flX10_52 fqX10_25 ((up_ne (by decide)).trans h11.1) (by rw [fsM_l]; decide) (fun _ => rfl) (fun _ => rfl) dX10_init_105 ?_
  refine C_genM (N := 13) (MkM.nx (fs' := fsM (-1) 12) (by decide) h11 rfl (by decide +kernel)) (fun ce h12 => ?_)
  clear h11
  refine C_aload_n dX10_init_108 rfl ?_
  refine C_bipush 12 dX10_init_109 (by decide) ?_
  refine C_newi (kc := 33) (ks := 7090) 12 (ts1 114 rfl rfl) (by decide) (by decide) (by decide) dX10_init_111 (by omega) ?_
  refine C_putF (fs := fsM (-1) 12) (.array .int) flX10_55 fqX10_26 ((up_ne (by decide)).trans h12.1) (by rw [fsM_l]; decide) (fun _ => rfl) (fun _ => rfl) dX10_init_113 ?_
  refine C_genM (N := 14) (MkM.nx (fs' := fsM (-1) 13) (by decide) h12 rfl (by decide +kernel)) (fun ce h13 => ?_)
  clear h12
  refine C_aload_n dX10_init_116 rfl ?_
  refine C_bipush 12 dX10_init_117 (by decide) ?_
  refine C_newi (kc := 32) (ks := 7078) 12 (ts1 114 rfl rfl) (by decide) (by decide) (by decide) dX10_init_119 (by omega) ?_
  refine C_putF (fs := fsM (-1) 13) (.array .int) flX10_58 fqX10_27 ((up_ne (by decide)).trans h13.1) (by rw [fsM_l]; decide) (fun _ => rfl) (fun _ => rfl) dX10_init_121 ?_
  refine C_genM (N := 15) (MkM.nx (fs' := fsM (-1) 14) (by decide) h13 rfl (by decide +kernel)) (fun ce h14 => ?_)
  clear h13
  refine C_aload_n dX10_init_124 rfl ?_
  refine C_iconst 2 dX10_init_125 (by decide) ?_
  refine C_newi (kc := 31) (ks := 7076) 2 (ts1 114 rfl rfl) (by decide) (by decide) (by decide) dX10_init_126 (by omega) ?_
  refine C_putF (fs := fsM (-1) 14) (.array .int) flX10_61 fqX10_28 ((up_ne (by decide)).trans h14.1) (by rw [fsM_l]; decide) (fun _ => rfl) (fun _ => rfl) dX10_init_128 ?_
  refine C_genM (N := 16) (MkM.nx (fs' := fsM (-1) 15) (by decide) h14 rfl (by decide +kernel)) (fun ce h15 => ?_)
  clear h14
  refine C_aload_n dX10_init_131 rfl ?_
  refine C_bipush 8 dX10_init_132 (by decide) ?_
  refine C_newi (kc := 30) (ks := 7068) 8 (ts1 114 rfl rfl) (by decide) (by decide) (by decide) dX10_init_134 (by omega) ?_
  refine C_putF (fs := fsM (-1) 15) (.array .int) flX10_64 fqX10_29 ((up_ne (by decide)).trans h15.1) (by rw [fsM_l]; decide) (fun _ => rfl) (fun _ => rfl) dX10_init_136 ?_
  refine C_genM (N := 17) (MkM.nx (fs' := fsM (-1) 16) (by decide) h15 rfl (by decide +kernel)) (fun ce h16 => ?_)
  clear h15
  refine C_aload_n dX10_init_139 rfl ?_
  refine C_bipush 8 dX10_init_140 (by decide) ?_
  refine C_newi (kc := 29) (ks := 7060) 8 (ts1 114 rfl rfl) (by decide) (by decide) (by decide) dX10_init_142 (by omega) ?_
  refine C_putF (fs := fsM (-1) 16) (.array .int) flX10_67 fqX10_30 ((up_ne (by decide)).trans h16.1) (by rw [fsM_l]; decide) (fun _ => rfl) (fun _ => rfl) dX10_init_144 ?_
  refine C_genM (N := 18) (MkM.nx (fs' := fsM (-1) 17) (by decide) h16 rfl (by decide +kernel)) (fun ce h17 => ?_)
  clear h16
  refine C_aload_n dX10_init_147 rfl ?_
  refine C_iconst 2 dX10_init_148 (by decide) ?_
  refine C_newi (kc := 28) (ks := 7058) 2 (ts1 114 rfl rfl) (by decide) (by decide) (by decide) dX10_init_149 (by omega) ?_
  refine C_putF (fs := fsM (-1) 17) (.array .int) flX10_70 fqX10_31 ((up_ne (by decide)).trans h17.1) (by rw [fsM_l]; decide) (fun _ => rfl) (fun _ => rfl) dX10_init_151 ?_
  refine C_genM (N := 19) (MkM.nx (fs' := fsM (-1) 18) (by decide) h17 rfl (by decide +kernel)) (fun ce h18 => ?_)
  clear h17
  refine C_aload_n dX10_init_154 rfl ?_
  refine C_iconst 2 dX10_init_155 (by decide) ?_
  refine C_newi (kc := 27) (ks := 7056) 2 (ts1 114 rfl rfl) (by decide) (by decide) (by decide) dX10_init_156 (by omega) ?_
  refine C_putF (fs := fsM (-1) 18) (.array .int) flX10_73 fqX10_32 ((up_ne (by decide)).trans h18.1) (by rw [fsM_l]; decide) (fun _ => rfl) (fun _ => rfl) dX10_init_158 ?_
  refine C_genM (N := 20) (MkM.nx (fs' := fsM (-1) 19) (by decide) h18 rfl (by decide +kernel)) (fun ce h19 => ?_)
  clear h18
  refine C_aload_n dX10_init_161 rfl ?_
  refine C_iconst 2 dX10_init_162 (by decide) ?_
  refine C_newi (kc := 26) (ks := 7054) 2 (ts1 114 rfl rfl) (by decide) (by decide) (by decide) dX10_init_163 (by omega) ?_
  refine C_putF (fs := fsM (-1) 19) (.array .int) flX10_76 fqX10_33 ((up_ne (by decide)).trans h19.1) (by rw [fsM_l]; decide) (fun _ => rfl) (fun _ => rfl) dX10_init_165 ?_
  refine C_genM (N := 21) (MkM.nx (fs' := fsM (-1) 20) (by decide) h19 rfl (by decide +kernel)) (fun ce h20 => ?_)
  clear h19
  refine C_aload_n dX10_init_168 rfl ?_
  refine C_bipush 6 dX10_init_169 (by decide) ?_
  refine C_newi (kc := 25) (ks := 7048) 6 (ts1 114 rfl rfl) (by decide) (by decide) (by decide) dX10_init_171 (by omega) ?_
  refine C_putF (fs := fsM (-1) 20) (.array .int) flX10_79 fqX10_34 ((up_ne (by decide)).trans h20.1) (by rw [fsM_l]; decide) (fun _ => rfl) (fun _ => rfl) dX10_init_173 ?_
  refine C_genM (N := 22) (MkM.nx (fs' := fsM (-1) 21) (by decide) h20 rfl (by decide +kernel)) (fun ce h21 => ?_)
  clear h20
  refine C_aload_n dX10_init_176 rfl ?_
  refine C_bipush 6 dX10_init_177 (by decide) ?_
  refine C_newi (kc := 24) (ks := 7042) 6 (ts1 114 rfl rfl) (by decide) (by decide) (by decide) dX10_init_179 (by omega) ?_
  refine C_putF (fs := fsM (-1) 21) (.array .int) flX10_82 fqX10_35 ((up_ne (by decide)).trans h21.1) (by rw [fsM_l]; decide) (fun _ => rfl) (fun _ => rfl) dX10_init_181 ?_
  refine C_genM (N := 23) (MkM.nx (fs' := fsM (-1) 22) (by decide) h21 rfl (by decide +kernel)) (fun ce h22 => ?_)
  clear h21
  refine C_aload_n dX10_init_184 rfl ?_
  refine C_sipush 260 dX10_init_185 (by decide) ?_
  refine C_newz (kc := 23) (ks := 6782) 260 (ts2 169 rfl rfl) (by decide) (by decide) (by decide) dX10_init_188 (by omega) ?_
  refine C_putF (fs := fsM (-1) 22) (.array .boolean) flX10_85 fqX10_37 ((up_ne (by decide)).trans h22.1) (by rw [fsM_l]; decide) (fun _ => rfl) (fun _ => rfl) dX10_init_190 ?_
  refine C_genM (N := 24) (MkM.nx (fs' := fsM (-1) 23) (by decide) h22 rfl (by decide +kernel)) (fun ce h23 => ?_)
  clear h22
  refine C_aload_n dX10_init_193 rfl ?_
  refine C_sipush 260 dX10_init_194 (by decide) ?_
  refine C_newi (kc := 22) (ks := 6522) 260 (ts1 114 rfl rfl) (by decide) (by decide) (by decide) dX10_init_197 (by omega) ?_
  refine C_putF (fs := fsM (-1) 23) (.array .int) flX10_89 fqX10_38 ((up_ne (by decide)).trans h23.1) (by rw [fsM_l]; decide) (fun _ => rfl) (fun _ => rfl) dX10_init_199 ?_
  refine C_genM (N := 25) (MkM.nx (fs' := fsM (-1) 24) (by decide) h23 rfl (by decide +kernel)) (fun ce h24 => ?_)
  clear h23
  refine C_aload_n dX10_init_202 rfl ?_
  refine C_sipush 260 dX10_init_203 (by decide) ?_
  refine C_newi (kc := 21) (ks := 6262) 260 (ts1 114 rfl rfl) (by decide) (by decide) (by decide) dX10_init_206 (by omega) ?_
  refine C_putF (fs := fsM (-1) 24) (.array .int) flX10_92 fqX10_39 ((up_ne (by decide)).trans h24.1) (by rw [fsM_l]; decide) (fun _ => rfl) (fun _ => rfl) dX10_init_208 ?_
  refine C_genM (N := 26) (MkM.nx (fs' := fsM (-1) 25) (by decide) h24 rfl (by decide +kernel)) (fun ce h25 => ?_)
  clear h24
  refine C_aload_n dX10_init_211 rfl ?_
  refine C_sipush 260 dX10_init_212 (by decide) ?_
  refine C_newi (kc := 20) (ks := 6002) 260 (ts1 114 rfl rfl) (by decide) (by decide) (by decide) dX10_init_215 (by omega) ?_
  refine C_putF (fs := fsM (-1) 25) (.array .int) flX10_95 fqX10_40 ((up_ne (by decide)).trans h25.1) (by rw [fsM_l]; decide) (fun _ => rfl) (fun _ => rfl) dX10_init_217 ?_
  refine C_genM (N := 27) (MkM.nx (fs' := fsM (-1) 26) (by decide) h25 rfl (by decide +kernel)) (fun ce h26 => ?_)
  clear h25
  refine C_aload_n dX10_init_220 rfl ?_
  refine C_sipush 260 dX10_init_221 (by decide) ?_
  refine C_newi (kc := 19) (ks := 5742) 260 (ts1 114 rfl rfl) (by decide) (by decide) (by decide) dX10_init_224 (by omega) ?_
  refine C_putF (fs := fsM (-1) 26) (.array .int) flX10_98 fqX10_41 ((up_ne (by decide)).trans h26.1) (by rw [fsM_l]; decide) (fun _ => rfl) (fun _ => rfl) dX10_init_226 ?_
  refine C_genM (N := 28) (MkM.nx (fs' := fsM (-1) 27) (by decide) h26 rfl (by decide +kernel)) (fun ce h27 => ?_)
  clear h26
  refine C_aload_n dX10_init_229 rfl ?_
  refine C_sipush 840 dX10_init_230 (by decide) ?_
  refine C_newi (kc := 18) (ks := 4902) 840 (ts1 114 rfl rfl) (by decide) (by decide) (by decide) dX10_init_233 (by omega) ?_
  refine C_putF (fs := fsM (-1) 27) (.array .int) flX10_101 fqX10_43 ((up_ne (by decide)).trans h27.1) (by rw [fsM_l]; decide) (fun _ => rfl) (fun _ => rfl) dX10_init_235 ?_
  refine C_genM (N := 29) (MkM.nx (fs' := fsM (-1) 28) (by decide) h27 rfl (by decide +kernel)) (fun ce h28 => ?_)
  clear h27
  refine C_aload_n dX10_init_238 rfl ?_
  refine C_sipush 840 dX10_init_239 (by decide) ?_
  refine C_newi (kc := 17) (ks := 4062) 840 (ts1 114 rfl rfl) (by decide) (by decide) (by decide) dX10_init_242 (by omega) ?_
  refine C_putF (fs := fsM (-1) 28) (.array .int) flX10_104 fqX10_44 ((up_ne (by decide)).trans h28.1) (by rw [fsM_l]; decide) (fun _ => rfl) (fun _ => rfl) dX10_init_244 ?_
  refine C_genM (N := 30) (MkM.nx (fs' := fsM (-1) 29) (by decide) h28 rfl (by decide +kernel)) (fun ce h29 => ?_)
  clear h28
  refine C_aload_n dX10_init_247 rfl ?_
  refine C_bipush 64 dX10_init_248 (by decide) ?_
  refine C_newi (kc := 16) (ks := 3998) 64 (ts1 114 rfl rfl) (by decide) (by decide) (by decide) dX10_init_250 (by omega) ?_
  refine C_putF (fs := fsM (-1) 29) (.array .int) flX10_107 fqX10_45 ((up_ne (by decide)).trans h29.1) (by rw [fsM_l]; decide) (fun _ => rfl) (fun _ => rfl) dX10_init_252 ?_
  refine C_genM (N := 31) (MkM.nx (fs' := fsM (-1) 30) (by decide) h29 rfl (by decide +kernel)) (fun ce h30 => ?_)
  clear h29
  refine C_aload_n dX10_init_255 rfl ?_
  refine C_bipush 9 dX10_init_256 (by decide) ?_
  refine C_newi (kc := 15) (ks := 3989) 9 (ts1 114 rfl rfl) (by decide) (by decide) (by decide) dX10_init_258 (by omega) ?_
  refine C_putF (fs := fsM (-1) 30) (.array .int) flX10_110 fqX10_47 ((up_ne (by decide)).trans h30.1) (by rw [fsM_l]; decide) (fun _ => rfl) (fun _ => rfl) dX10_init_260 ?_
  refine C_genM (N := 32) (MkM.nx (fs' := fsM (-1) 31) (by decide) h30 rfl (by decide +kernel)) (fun ce h31 => ?_)
  clear h30
  refine C_aload_n dX10_init_263 rfl ?_
  refine C_sipush 400 dX10_init_264 (by decide) ?_
  refine C_newi (kc := 14) (ks := 3589) 400 (ts1 114 rfl rfl) (by decide) (by decide) (by decide) dX10_init_267 (by omega) ?_
  refine C_putF (fs := fsM (-1) 31) (.array .int) flX10_113 fqX10_48 ((up_ne (by decide)).trans h31.1) (by rw [fsM_l]; decide) (fun _ => rfl) (fun _ => rfl) dX10_init_269 ?_
  refine C_genM (N := 33) (MkM.nx (fs' := fsM (-1) 32) (by decide) h31 rfl (by decide +kernel)) (fun ce h32 => ?_)
  clear h31
  refine C_aload_n dX10_init_272 rfl ?_
  refine C_bipush 92 dX10_init_273 (by decide) ?_
  refine C_newi (kc := 13) (ks := 3497) 92 (ts1 114 rfl rfl) (by decide) (by decide) (by decide) dX10_init_275 (by omega) ?_
  refine C_putF (fs := fsM (-1) 32) (.array .int) flX10_116 fqX10_50 ((up_ne (by decide)).trans h32.1) (by rw [fsM_l]; decide) (fun _ => rfl) (fun _ => rfl) dX10_init_277 ?_
  refine C_genM (N := 34) (MkM.nx (fs' := fsM (-1) 33) (by decide) h32 rfl (by decide +kernel)) (fun ce h33 => ?_)
  clear h32
  refine C_aload_n dX10_init_280 rfl ?_
  refine C_bipush 92 dX10_init_281 (by decide) ?_
  refine C_newi (kc := 12) (ks := 3405) 92 (ts1 114 rfl rfl) (by decide) (by decide) (by decide) dX10_init_283 (by omega) ?_
  refine C_putF (fs := fsM (-1) 33) (.array .int) flX10_119 fqX10_51 ((up_ne (by decide)).trans h33.1) (by rw [fsM_l]; decide) (fun _ => rfl) (fun _ => rfl) dX10_init_285 ?_
  refine C_genM (N := 35) (MkM.nx (fs' := fsM (-1) 34) (by decide) h33 rfl (by decide +kernel)) (fun ce h34 => ?_)
  clear h33
  refine C_aload_n dX10_init_288 rfl ?_
  refine C_sipush 2760 dX10_init_289 (by decide) ?_
  refine C_newi (kc := 11) (ks := 645) 2760 (ts1 114 rfl rfl) (by decide) (by decide) (by decide) dX10_init_292 (by omega) ?_
  refine C_putF (fs := fsM (-1) 34) (.array .int) flX10_122 fqX10_54 ((up_ne (by decide)).trans h34.1) (by rw [fsM_l]; decide) (fun _ => rfl) (fun _ => rfl) dX10_init_294 ?_
  refine C_genM (N := 36) (MkM.nx (fs' := fsM (-1) 35) (by decide) h34 rfl (by decide +kernel)) (fun ce h35 => ?_)
  clear h34
  refine C_aload_n dX10_init_297 rfl ?_
  refine C_iconst 4 dX10_init_298 (by decide) ?_
  refine C_newi (kc := 10) (ks := 641) 4 (ts1 114 rfl rfl) (by decide) (by decide) (by decide) dX10_init_299 (by omega) ?_
  refine C_putF (fs := fsM (-1) 35) (.array .int) flX10_125 fqX10_57 ((up_ne (by decide)).trans h35.1) (by rw [fsM_l]; decide) (fun _ => rfl) (fun _ => rfl) dX10_init_301 ?_
  refine C_genM (N := 37) (MkM.nx (fs' := fsM (-1) 36) (by decide) h35 rfl (by decide +kernel)) (fun ce h36 => ?_)
  clear h35
  refine C_aload_n dX10_init_304 rfl ?_
  refine C_iconst 4 dX10_init_305 (by decide) ?_
  refine C_newi (kc := 9) (ks := 637) 4 (ts1 114 rfl rfl) (by decide) (by decide) (by decide) dX10_init_306 (by omega) ?_
  refine C_putF (fs := fsM (-1) 36) (.array .int) flX10_128 fqX10_58 ((up_ne (by decide)).trans h36.1) (by rw [fsM_l]; decide) (fun _ => rfl) (fun _ => rfl) dX10_init_308 ?_
  refine C_genM (N := 38) (MkM.nx (fs' := fsM (-1) 37) (by decide) h36 rfl (by decide +kernel)) (fun ce h37 => ?_)
  clear h36
  refine C_aload_n dX10_init_311 rfl ?_
  refine C_iconst 4 dX10_init_312 (by decide) ?_
  refine C_newi (kc := 8) (ks := 633) 4 (ts1 114 rfl rfl) (by decide) (by decide) (by decide) dX10_init_313 (by omega) ?_
  refine C_putF (fs := fsM (-1) 37) (.array .int) flX10_131 fqX10_59 ((up_ne (by decide)).trans h37.1) (by rw [fsM_l]; decide) (fun _ => rfl) (fun _ => rfl) dX10_init_315 ?_
  refine C_genM (N := 39) (MkM.nx (fs' := fsM (-1) 38) (by decide) h37 rfl (by decide +kernel)) (fun ce h38 => ?_)
  clear h37
  refine C_aload_n dX10_init_318 rfl ?_
  refine C_bipush 24 dX10_init_319 (by decide) ?_
  refine C_newi (kc := 7) (ks := 609) 24 (ts1 114 rfl rfl) (by decide) (by decide) (by decide) dX10_init_321 (by omega) ?_
  refine C_putF (fs := fsM (-1) 38) (.array .int) flX10_134 fqX10_60 ((up_ne (by decide)).trans h38.1) (by rw [fsM_l]; decide) (fun _ => rfl) (fun _ => rfl) dX10_init_323 ?_
  refine C_genM (N := 40) (MkM.nx (fs' := fsM (-1) 39) (by decide) h38 rfl (by decide +kernel)) (fun ce h39 => ?_)
  clear h38
  refine C_aload_n dX10_init_326 rfl ?_
  refine C_bipush 24 dX10_init_327 (by decide) ?_
  refine C_newi (kc := 6) (ks := 585) 24 (ts1 114 rfl rfl) (by decide) (by decide) (by decide) dX10_init_329 (by omega) ?_
  refine C_putF (fs := fsM (-1) 39) (.array .int) flX10_137 fqX10_64 ((up_ne (by decide)).trans h39.1) (by rw [fsM_l]; decide) (fun _ => rfl) (fun _ => rfl) dX10_init_331 ?_
  refine C_genM (N := 41) (MkM.nx (fs' := fsM (-1) 40) (by decide) h39 rfl (by decide +kernel)) (fun ce h40 => ?_)
  clear h39
  refine C_aload_n dX10_init_334 rfl ?_
  refine C_bipush 20 dX10_init_335 (by decide) ?_
  refine C_newi (kc := 5) (ks := 565) 20 (ts1 114 rfl rfl) (by decide) (by decide) (by decide) dX10_init_337 (by omega) ?_
  refine C_putF (fs := fsM (-1) 40) (.array .int) flX10_140 fqX10_66 ((up_ne (by decide)).trans h40.1) (by rw [fsM_l]; decide) (fun _ => rfl) (fun _ => rfl) dX10_init_339 ?_
  refine C_genM (N := 42) (MkM.nx (fs' := fsM (-1) 41) (by decide) h40 rfl (by decide +kernel)) (fun ce h41 => ?_)
  clear h40
  refine C_aload_n dX10_init_342 rfl ?_
  refine C_bipush 20 dX10_init_343 (by decide) ?_
  refine C_newi (kc := 4) (ks := 545) 20 (ts1 114 rfl rfl) (by decide) (by decide) (by decide) dX10_init_345 (by omega) ?_
  refine C_putF (fs := fsM (-1) 41) (.array .int) flX10_143 fqX10_67 ((up_ne (by decide)).trans h41.1) (by rw [fsM_l]; decide) (fun _ => rfl) (fun _ => rfl) dX10_init_347 ?_
  refine C_genM (N := 43) (MkM.nx (fs' := fsM (-1) 42) (by decide) h41 rfl (by decide +kernel)) (fun ce h42 => ?_)
  clear h41
  refine C_aload_n dX10_init_350 rfl ?_
  refine C_sipush 256 dX10_init_351 (by decide) ?_
  refine C_newz (kc := 3) (ks := 289) 256 (ts2 169 rfl rfl) (by decide) (by decide) (by decide) dX10_init_354 (by omega) ?_
  refine C_putF (fs := fsM (-1) 42) (.array .boolean) flX10_146 fqX10_68 ((up_ne (by decide)).trans h42.1) (by rw [fsM_l]; decide) (fun _ => rfl) (fun _ => rfl) dX10_init_356 ?_
  refine C_genM (N := 44) (MkM.nx (fs' := fsM (-1) 43) (by decide) h42 rfl (by decide +kernel)) (fun ce h43 => ?_)
  clear h42
  refine C_aload_n dX10_init_359 rfl ?_
  refine C_bipush 10 dX10_init_360 (by decide) ?_
  refine C_newi (kc := 2) (ks := 279) 10 (ts1 114 rfl rfl) (by decide) (by decide) (by decide) dX10_init_362 (by omega) ?_
  refine C_putF (fs := fsM (-1) 43) (.array .int) flX10_149 fqX10_69 ((up_ne (by decide)).trans h43.1) (by rw [fsM_l]; decide) (fun _ => rfl) (fun _ => rfl) dX10_init_364 ?_
  refine C_genM (N := 45) (MkM.nx (fs' := fsM (-1) 44) (by decide) h43 rfl (by decide +kernel)) (fun ce h44 => ?_)
  clear h43
  refine C_aload_n dX10_init_367 rfl ?_
  refine C_iconst 3 dX10_init_368 (by decide) ?_
  refine C_newz (kc := 1) (ks := 276) 3 (ts2 169 rfl rfl) (by decide) (by decide) (by decide) dX10_init_369 (by omega) ?_
  refine C_putF (fs := fsM (-1) 44) (.array .boolean) flX10_152 fqX10_70 ((up_ne (by decide)).trans h44.1) (by rw [fsM_l]; decide) (fun _ => rfl) (fun _ => rfl) dX10_init_371 ?_
  refine C_genM (N := 46) (MkM.nx (fs' := fsM (-1) 45) (by decide) h44 rfl (by decide +kernel)) (fun ce h45 => ?_)
  clear h44
  refine C_aload_n dX10_init_374 rfl ?_
  refine C_sipush 276 dX10_init_375 (by decide) ?_
  refine C_newi (kc := 0) (ks := 0) 276 (ts1 114 rfl rfl) (by decide) (by decide) (by decide) dX10_init_378 (by omega) ?_
  refine C_putF (fs := fsM (-1) 45) (.array .int) flX10_155 fqX10_71 ((up_ne (by decide)).trans h45.1) (by rw [fsM_l]; decide) (fun _ => rfl) (fun _ => rfl) dX10_init_380 ?_
  refine C_genM (N := 47) (MkM.nx (fs' := fsM (-1) 46) (by decide) h45 rfl (by decide +kernel)) (fun ce h46 => ?_)
  clear h45
  exact k ce h46
