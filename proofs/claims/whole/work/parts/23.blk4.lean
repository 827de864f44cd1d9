set_option maxHeartbeats 4000000 in
set_option maxRecDepth 100000 in
theorem X10_isWay_at75_ok {d : Nat} {x1 : Int32} {x2 : Int32} {x3 : Int32} {x4 : Int32} {x5 : Int32} {μ μ' : Mem} {x : Int32} (h : ((x4 ≤ x5 → (x = 1 ∧ μ' = μ)) ∧ (¬ x4 ≤ x5 → vp_in x5 20 ∧ (∃ (y3 : Int32) (μ1 : Mem), X10_wetBy d x1 x2 x3 (μ.1 41 x5.toNatClampNeg) μ y3 μ1 ∧ vp_in x5 20 ∧ ((y3 = (μ1.1 42 x5.toNatClampNeg) → X10_isWay_at75 d x1 x2 x3 x4 (x5 + 1) μ1 x μ') ∧ (¬ y3 = (μ1.1 42 x5.toNatClampNeg) → (x = 0 ∧ μ' = μ1))))))) : X10_isWay_at75 d x1 x2 x3 x4 x5 μ x μ' := by
  refine Ev_iload dX10_isWay_75 rfl ?_
  refine Ev_iload dX10_isWay_77 rfl ?_
  refine Ev_icmp_ge 114 dX10_isWay_79 (by decide) (fun q => ?_) (fun q => ?_)
  · have h := h.1 q
    refine Ev_iconst 1 dX10_isWay_114 (by decide) ?_
    obtain ⟨rfl, rfl⟩ := h
    exact R_i rfl dX10_isWay_115 rfl
  · have h := h.2 q
    refine Ev_aload_n dX10_isWay_82 rfl ?_
    refine Ev_iload_n dX10_isWay_83 rfl ?_
    refine Ev_iload_n dX10_isWay_84 rfl ?_
    refine Ev_iload_n dX10_isWay_85 rfl ?_
    refine Ev_aload_n dX10_isWay_86 rfl ?_
    refine Ev_getF 11 20 41 flX10_140 rfl dX10_isWay_87 ?_
    refine Ev_iload dX10_isWay_90 rfl ?_
    obtain ⟨g, h⟩ := h
    refine Ev_iald g dX10_isWay_92 ?_
    obtain ⟨y3, μ1, hM2, h⟩ := h
    refine Ev_callV [_, _, _, _] mlX10_467 rfl rfl (Nat.le_of_ble_eq_true rfl) dX10_isWay_93 hM2 ?_
    refine Ev_aload_n dX10_isWay_96 rfl ?_
    refine Ev_getF 11 20 42 flX10_143 rfl dX10_isWay_97 ?_
    refine Ev_iload dX10_isWay_100 rfl ?_
    obtain ⟨g, h⟩ := h
    refine Ev_iald g dX10_isWay_102 ?_
    refine Ev_icmp_eq 108 dX10_isWay_103 (by decide) (fun q => ?_) (fun q => ?_)
    · have h := h.1 q
      refine Ev_iinc (x5 + 1) dX10_isWay_108 rfl rfl (okp_of rfl) ?_
      refine Ev_goto 75 dX10_isWay_111 (by decide) ?_
      exact h
    · have h := h.2 q
      refine Ev_iconst 0 dX10_isWay_106 (by decide) ?_
      obtain ⟨rfl, rfl⟩ := h
      exact R_i rfl dX10_isWay_107 rfl
set_option maxHeartbeats 4000000 in
set_option maxRecDepth 100000 in
theorem X10_keeps_ok {d : Nat}  {μ μ' : Mem} (h : (((μ.1 0 53) ≠ 30 → X10_keeps_at51 d 0 μ μ') ∧ ((μ.1 0 53) = 30 → X10_keeps_at11 d 0 μ μ'))) : X10_keeps (d + 1) μ μ' := by
  refine Me_of [some (vr 10 0 0), none] rfl (Nat.le_of_ble_eq_true rfl) (by decide) ?_
  refine Ev_aload_n dX10_keeps_0 rfl ?_
  refine Ev_getI flX10_265 rfl dX10_keeps_1 ?_
  refine Ev_bipush 30 dX10_keeps_4 (by decide) ?_
  refine Ev_icmp_ne 49 dX10_keeps_6 (by decide) (fun q => ?_) (fun q => ?_)
  · have h := h.1 q
    refine Ev_iconst 0 dX10_keeps_49 (by decide) ?_
    refine Ev_istore_n dX10_keeps_50 (Nat.le_of_ble_eq_true rfl) (okp_of rfl) ?_
    exact h
  · have h := h.2 q
    refine Ev_iconst 0 dX10_keeps_9 (by decide) ?_
    refine Ev_istore_n dX10_keeps_10 (Nat.le_of_ble_eq_true rfl) (okp_of rfl) ?_
    exact h
set_option maxHeartbeats 4000000 in
set_option maxRecDepth 100000 in
theorem X10_keeps_at51_ok {d : Nat} {x1 : Int32} {μ μ' : Mem} (h : ((92 ≤ x1 → (∀ μ1 : Mem, μ1 = sI μ 0 53 ((μ.1 0 53) + 1) → (∃ (μ2 : Mem), X10_keepsRow d μ1 μ2 ∧ μ' = μ2))) ∧ (¬ 92 ≤ x1 → vp_in x1 92 ∧ vp_in ((92 * (μ.1 0 53)) + x1) 2760 ∧ (∀ μ4 : Mem, μ4 = sI μ 35 (((92 * (μ.1 0 53)) + x1).toNatClampNeg) (μ.1 33 x1.toNatClampNeg) → X10_keeps_at51 d (x1 + 1) μ4 μ')))) : X10_keeps_at51 d x1 μ μ' := by
  refine Ev_iload_n dX10_keeps_51 rfl ?_
  refine Ev_bipush 92 dX10_keeps_52 (by decide) ?_
  refine Ev_icmp_ge 83 dX10_keeps_54 (by decide) (fun q => ?_) (fun q => ?_)
  · have h := h.1 q
    refine Ev_aload_n dX10_keeps_83 rfl ?_
    refine Ev_dup dX10_keeps_84 (fun _ z => by cases z) ?_
    refine Ev_getI flX10_265 rfl dX10_keeps_85 ?_
    refine Ev_iconst 1 dX10_keeps_88 (by decide) ?_
    refine Ev_iadd dX10_keeps_89 ?_
    refine Ev_putI .int flX10_265 fpX10_53 rfl rfl rfl dX10_keeps_90 ?_
    have h := h _ rfl
    refine Ev_aload_n dX10_keeps_93 rfl ?_
    obtain ⟨μ2, hM3, h⟩ := h
    refine Ev_callV [] mlX10_169 rfl rfl (Nat.le_of_ble_eq_true rfl) dX10_keeps_94 hM3 ?_
    subst h
    exact R_v rfl dX10_keeps_97
  · have h := h.2 q
    refine Ev_aload_n dX10_keeps_57 rfl ?_
    refine Ev_getF 11 2760 35 flX10_122 rfl dX10_keeps_58 ?_
    refine Ev_bipush 92 dX10_keeps_61 (by decide) ?_
    refine Ev_aload_n dX10_keeps_63 rfl ?_
    refine Ev_getI flX10_265 rfl dX10_keeps_64 ?_
    refine Ev_imul dX10_keeps_67 ?_
    refine Ev_iload_n dX10_keeps_68 rfl ?_
    refine Ev_iadd dX10_keeps_69 ?_
    refine Ev_aload_n dX10_keeps_70 rfl ?_
    refine Ev_getF 11 92 33 flX10_116 rfl dX10_keeps_71 ?_
    refine Ev_iload_n dX10_keeps_74 rfl ?_
    obtain ⟨g, h⟩ := h
    refine Ev_iald g dX10_keeps_75 ?_
    obtain ⟨g, h⟩ := h
    refine Ev_iast g dX10_keeps_76 ?_
    have h := h _ rfl
    refine Ev_iinc (x1 + 1) dX10_keeps_77 rfl rfl (okp_of rfl) ?_
    refine Ev_goto 51 dX10_keeps_80 (by decide) ?_
    exact h
set_option maxHeartbeats 4000000 in
set_option maxRecDepth 100000 in
theorem X10_keeps_at11_ok {d : Nat} {x1 : Int32} {μ μ' : Mem} (h : ((2668 ≤ x1 → (∀ μ1 : Mem, μ1 = sI μ 0 53 ((μ.1 0 53) - 1) → X10_keeps_at51 d 0 μ1 μ')) ∧ (¬ 2668 ≤ x1 → vp_in (x1 + 92) 2760 ∧ vp_in x1 2760 ∧ (∀ μ2 : Mem, μ2 = sI μ 35 x1.toNatClampNeg (μ.1 35 ((x1 + 92).toNatClampNeg)) → X10_keeps_at11 d (x1 + 1) μ2 μ')))) : X10_keeps_at11 d x1 μ μ' := by
  refine Ev_iload_n dX10_keeps_11 rfl ?_
  refine Ev_sipush 2668 dX10_keeps_12 (by decide) ?_
  refine Ev_icmp_ge 39 dX10_keeps_15 (by decide) (fun q => ?_) (fun q => ?_)
  · have h := h.1 q
    refine Ev_aload_n dX10_keeps_39 rfl ?_
    refine Ev_dup dX10_keeps_40 (fun _ z => by cases z) ?_
    refine Ev_getI flX10_265 rfl dX10_keeps_41 ?_
    refine Ev_iconst 1 dX10_keeps_44 (by decide) ?_
    refine Ev_isub dX10_keeps_45 ?_
    refine Ev_putI .int flX10_265 fpX10_53 rfl rfl rfl dX10_keeps_46 ?_
    have h := h _ rfl
    refine Ev_iconst 0 dX10_keeps_49 (by decide) ?_
    refine Ev_istore_n dX10_keeps_50 (Nat.le_of_ble_eq_true rfl) (okp_of rfl) ?_
    exact h
  · have h := h.2 q
    refine Ev_aload_n dX10_keeps_18 rfl ?_
    refine Ev_getF 11 2760 35 flX10_122 rfl dX10_keeps_19 ?_
    refine Ev_iload_n dX10_keeps_22 rfl ?_
    refine Ev_aload_n dX10_keeps_23 rfl ?_
    refine Ev_getF 11 2760 35 flX10_122 rfl dX10_keeps_24 ?_
    refine Ev_iload_n dX10_keeps_27 rfl ?_
    refine Ev_bipush 92 dX10_keeps_28 (by decide) ?_
    refine Ev_iadd dX10_keeps_30 ?_
    obtain ⟨g, h⟩ := h
    refine Ev_iald g dX10_keeps_31 ?_
    obtain ⟨g, h⟩ := h
    refine Ev_iast g dX10_keeps_32 ?_
    have h := h _ rfl
    refine Ev_iinc (x1 + 1) dX10_keeps_33 rfl rfl (okp_of rfl) ?_
    refine Ev_goto 11 dX10_keeps_36 (by decide) ?_
    exact h
set_option maxHeartbeats 4000000 in
set_option maxRecDepth 100000 in
theorem X10_keepsRow_ok {d : Nat}  {μ μ' : Mem} (h : X10_keepsRow_at2 d 0 μ μ') : X10_keepsRow d μ μ' := by
  refine Me_of [some (vr 10 0 0), none] rfl (Nat.le_of_ble_eq_true rfl) (by decide) ?_
  refine Ev_iconst 0 dX10_keepsRow_0 (by decide) ?_
  refine Ev_istore_n dX10_keepsRow_1 (Nat.le_of_ble_eq_true rfl) (okp_of rfl) ?_
  exact h
set_option maxHeartbeats 4000000 in
set_option maxRecDepth 100000 in
theorem X10_keepsRow_at2_ok {d : Nat} {x1 : Int32} {μ μ' : Mem} (h : ((92 ≤ x1 → μ' = μ) ∧ (¬ 92 ≤ x1 → vp_in x1 92 ∧ vp_in x1 92 ∧ (∀ μ1 : Mem, μ1 = sI μ 33 x1.toNatClampNeg (μ.1 34 x1.toNatClampNeg) → X10_keepsRow_at2 d (x1 + 1) μ1 μ')))) : X10_keepsRow_at2 d x1 μ μ' := by
  refine Ev_iload_n dX10_keepsRow_2 rfl ?_
  refine Ev_bipush 92 dX10_keepsRow_3 (by decide) ?_
  refine Ev_icmp_ge 26 dX10_keepsRow_5 (by decide) (fun q => ?_) (fun q => ?_)
  · have h := h.1 q
    subst h
    exact R_v rfl dX10_keepsRow_26
  · have h := h.2 q
    refine Ev_aload_n dX10_keepsRow_8 rfl ?_
    refine Ev_getF 11 92 33 flX10_116 rfl dX10_keepsRow_9 ?_
    refine Ev_iload_n dX10_keepsRow_12 rfl ?_
    refine Ev_aload_n dX10_keepsRow_13 rfl ?_
    refine Ev_getF 11 92 34 flX10_119 rfl dX10_keepsRow_14 ?_
    refine Ev_iload_n dX10_keepsRow_17 rfl ?_
    obtain ⟨g, h⟩ := h
    refine Ev_iald g dX10_keepsRow_18 ?_
    obtain ⟨g, h⟩ := h
    refine Ev_iast g dX10_keepsRow_19 ?_
    have h := h _ rfl
    refine Ev_iinc (x1 + 1) dX10_keepsRow_20 rfl rfl (okp_of rfl) ?_
    refine Ev_goto 2 dX10_keepsRow_23 (by decide) ?_
    exact h
set_option maxHeartbeats 4000000 in
set_option maxRecDepth 100000 in
theorem X10_look_ok {d : Nat} {x1 : Int32} {x2 : Int32} {x3 : Int32} {μ μ' : Mem} {x : Int32} (h : (∃ (y3 : Int32) (μ1 : Mem), X10_isAsked d x1 x2 x3 μ y3 μ1 ∧ ((y3 ≠ 0 → X10_look_at15 d x1 x2 x3 0 μ1 x μ') ∧ (y3 = 0 → (x = (-1) ∧ μ' = μ1))))) : X10_look (d + 1) x1 x2 x3 μ x μ' := by
  refine Me_of [some (vr 10 0 0), some (vi x1), some (vi x2), some (vi x3), none, none, none, none] rfl (Nat.le_of_ble_eq_true rfl) (by decide) ?_
  refine Ev_aload_n dX10_look_0 rfl ?_
  refine Ev_iload_n dX10_look_1 rfl ?_
  refine Ev_iload_n dX10_look_2 rfl ?_
  refine Ev_iload_n dX10_look_3 rfl ?_
  obtain ⟨y3, μ1, hM2, h⟩ := h
  refine Ev_callV [_, _, _] mlX10_470 rfl rfl (Nat.le_of_ble_eq_true rfl) dX10_look_4 hM2 ?_
  refine Ev_if_ne 12 dX10_look_7 (by decide) (fun q => ?_) (fun q => ?_)
  · have h := h.1 q
    refine Ev_iconst 0 dX10_look_12 (by decide) ?_
    refine Ev_istore dX10_look_13 (Nat.le_of_ble_eq_true rfl) (okp_of rfl) ?_
    exact h
  · have h := h.2 q
    refine Ev_iconst (-1) dX10_look_10 (by decide) ?_
    obtain ⟨rfl, rfl⟩ := h
    exact R_i rfl dX10_look_11 rfl
set_option maxHeartbeats 4000000 in
set_option maxRecDepth 100000 in
theorem X10_look_at15_ok {d : Nat} {x1 : Int32} {x2 : Int32} {x3 : Int32} {x4 : Int32} {μ μ' : Mem} {x : Int32} (h : ((256 ≤ x4 → X10_look_at55 d x2 x3 (-2) 0 0 μ x μ') ∧ (¬ 256 ≤ x4 → (∃ (y3 : Int32) (μ1 : Mem), X10_isWay d x4 x2 x3 x1 μ y3 μ1 ∧ vp_in x4 256 ∧ (∀ μ4 : Mem, μ4 = sI μ1 43 x4.toNatClampNeg (vp_nar .boolean y3) → X10_look_at15 d x1 x2 x3 (x4 + 1) μ4 x μ'))))) : X10_look_at15 d x1 x2 x3 x4 μ x μ' := by
  refine Ev_iload dX10_look_15 rfl ?_
  refine Ev_sipush 256 dX10_look_17 (by decide) ?_
  refine Ev_icmp_ge 45 dX10_look_20 (by decide) (fun q => ?_) (fun q => ?_)
  · have h := h.1 q
    refine Ev_bipush (-2) dX10_look_45 (by decide) ?_
    refine Ev_istore dX10_look_47 (Nat.le_of_ble_eq_true rfl) (okp_of rfl) ?_
    refine Ev_iconst 0 dX10_look_49 (by decide) ?_
    refine Ev_istore dX10_look_50 (Nat.le_of_ble_eq_true rfl) (okp_of rfl) ?_
    refine Ev_iconst 0 dX10_look_52 (by decide) ?_
    refine Ev_istore dX10_look_53 (Nat.le_of_ble_eq_true rfl) (okp_of rfl) ?_
    refine Ev_weak ?_ h
    exact And.intro rfl (And.intro trivial (And.intro rfl (And.intro rfl (And.intro rfl (And.intro rfl (And.intro rfl (And.intro trivial (trivial))))))))
  · have h := h.2 q
    refine Ev_aload_n dX10_look_23 rfl ?_
    refine Ev_getF 14 256 43 flX10_146 rfl dX10_look_24 ?_
    refine Ev_iload dX10_look_27 rfl ?_
    refine Ev_aload_n dX10_look_29 rfl ?_
    refine Ev_iload dX10_look_30 rfl ?_
    refine Ev_iload_n dX10_look_32 rfl ?_
    refine Ev_iload_n dX10_look_33 rfl ?_
    refine Ev_iload_n dX10_look_34 rfl ?_
    obtain ⟨y3, μ1, hM2, h⟩ := h
    refine Ev_callV [_, _, _, _] mlX10_473 rfl rfl (Nat.le_of_ble_eq_true rfl) dX10_look_35 hM2 ?_
    obtain ⟨g, h⟩ := h
    refine Ev_zast g dX10_look_38 ?_
    have h := h _ rfl
    refine Ev_iinc (x4 + 1) dX10_look_39 rfl rfl (okp_of rfl) ?_
    refine Ev_goto 15 dX10_look_42 (by decide) ?_
    exact h
set_option maxHeartbeats 4000000 in
set_option maxRecDepth 100000 in
theorem X10_look_at55_ok {d : Nat} {x2 : Int32} {x3 : Int32} {x4 : Int32} {x5 : Int32} {x6 : Int32} {μ μ' : Mem} {x : Int32} (h : ((48 ≤ x6 → (x = x4 ∧ μ' = μ)) ∧ (¬ 48 ≤ x6 → (∃ (y3 : Int32) (μ1 : Mem), X10_isLand d x6 μ y3 μ1 ∧ ((y3 ≠ 0 → (∃ (y6 : Int32) (μ4 : Mem), X10_worstAt d x6 x2 x3 μ1 y6 μ4 ∧ ((x4 < 0 → X10_look_at55 d x2 x3 (((x6 / 8) * 10) + (x6 - x6 / 8 * 8)) y6 (x6 + 1) μ4 x μ') ∧ (¬ x4 < 0 → ((y6 < x5 → X10_look_at55 d x2 x3 (((x6 / 8) * 10) + (x6 - x6 / 8 * 8)) y6 (x6 + 1) μ4 x μ') ∧ (¬ y6 < x5 → X10_look_at55 d x2 x3 x4 x5 (x6 + 1) μ4 x μ')))))) ∧ (y3 = 0 → X10_look_at55 d x2 x3 x4 x5 (x6 + 1) μ1 x μ')))))) : X10_look_at55 d x2 x3 x4 x5 x6 μ x μ' := by
  refine Ev_iload dX10_look_55 rfl ?_
  refine Ev_bipush 48 dX10_look_57 (by decide) ?_
  refine Ev_icmp_ge 125 dX10_look_59 (by decide) (fun q => ?_) (fun q => ?_)
  · have h := h.1 q
    refine Ev_iload dX10_look_125 rfl ?_
    obtain ⟨rfl, rfl⟩ := h
    exact R_i rfl dX10_look_127 rfl
  · have h := h.2 q
    refine Ev_aload_n dX10_look_62 rfl ?_
    refine Ev_iload dX10_look_63 rfl ?_
    obtain ⟨y3, μ1, hM2, h⟩ := h
    refine Ev_callV [_] mlX10_366 rfl rfl (Nat.le_of_ble_eq_true rfl) dX10_look_65 hM2 ?_
    refine Ev_if_ne 74 dX10_look_68 (by decide) (fun q => ?_) (fun q => ?_)
    · have h := h.1 q
      refine Ev_aload_n dX10_look_74 rfl ?_
      refine Ev_iload dX10_look_75 rfl ?_
      refine Ev_iload_n dX10_look_77 rfl ?_
      refine Ev_iload_n dX10_look_78 rfl ?_
      obtain ⟨y6, μ4, hM5, h⟩ := h
      refine Ev_callV [_, _, _] mlX10_477 rfl rfl (Nat.le_of_ble_eq_true rfl) dX10_look_79 hM5 ?_
      refine Ev_istore dX10_look_82 (Nat.le_of_ble_eq_true rfl) (okp_of rfl) ?_
      refine Ev_iload dX10_look_84 rfl ?_
      refine Ev_if_lt 99 dX10_look_86 (by decide) (fun q => ?_) (fun q => ?_)
      · have h := h.1 q
        refine Ev_iload dX10_look_99 rfl ?_
        refine Ev_bipush 8 dX10_look_101 (by decide) ?_
        refine Ev_idiv dX10_look_103 (by decide) ?_
        refine Ev_bipush 10 dX10_look_104 (by decide) ?_
        refine Ev_imul dX10_look_106 ?_
        refine Ev_iload dX10_look_107 rfl ?_
        refine Ev_bipush 8 dX10_look_109 (by decide) ?_
        refine Ev_irem dX10_look_111 (by decide) ?_
        refine Ev_iadd dX10_look_112 ?_
        refine Ev_istore dX10_look_113 (Nat.le_of_ble_eq_true rfl) (okp_of rfl) ?_
        refine Ev_iload dX10_look_115 rfl ?_
        refine Ev_istore dX10_look_117 (Nat.le_of_ble_eq_true rfl) (okp_of rfl) ?_
        refine Ev_iinc (x6 + 1) dX10_look_119 rfl rfl (okp_of rfl) ?_
        refine Ev_goto 55 dX10_look_122 (by decide) ?_
        refine Ev_weak ?_ h
        exact And.intro rfl (And.intro trivial (And.intro rfl (And.intro rfl (And.intro rfl (And.intro rfl (And.intro rfl (And.intro trivial (trivial))))))))
      · have h := h.2 q
        refine Ev_iload dX10_look_89 rfl ?_
        refine Ev_iload dX10_look_91 rfl ?_
        refine Ev_icmp_lt 99 dX10_look_93 (by decide) (fun q => ?_) (fun q => ?_)
        · have h := h.1 q
          refine Ev_iload dX10_look_99 rfl ?_
          refine Ev_bipush 8 dX10_look_101 (by decide) ?_
          refine Ev_idiv dX10_look_103 (by decide) ?_
          refine Ev_bipush 10 dX10_look_104 (by decide) ?_
          refine Ev_imul dX10_look_106 ?_
          refine Ev_iload dX10_look_107 rfl ?_
          refine Ev_bipush 8 dX10_look_109 (by decide) ?_
          refine Ev_irem dX10_look_111 (by decide) ?_
          refine Ev_iadd dX10_look_112 ?_
          refine Ev_istore dX10_look_113 (Nat.le_of_ble_eq_true rfl) (okp_of rfl) ?_
          refine Ev_iload dX10_look_115 rfl ?_
          refine Ev_istore dX10_look_117 (Nat.le_of_ble_eq_true rfl) (okp_of rfl) ?_
          refine Ev_iinc (x6 + 1) dX10_look_119 rfl rfl (okp_of rfl) ?_
          refine Ev_goto 55 dX10_look_122 (by decide) ?_
          refine Ev_weak ?_ h
          exact And.intro rfl (And.intro trivial (And.intro rfl (And.intro rfl (And.intro rfl (And.intro rfl (And.intro rfl (And.intro trivial (trivial))))))))
        · have h := h.2 q
          refine Ev_goto 119 dX10_look_96 (by decide) ?_
          refine Ev_iinc (x6 + 1) dX10_look_119 rfl rfl (okp_of rfl) ?_
          refine Ev_goto 55 dX10_look_122 (by decide) ?_
          refine Ev_weak ?_ h
          exact And.intro rfl (And.intro trivial (And.intro rfl (And.intro rfl (And.intro rfl (And.intro rfl (And.intro rfl (And.intro trivial (trivial))))))))
    · have h := h.2 q
      refine Ev_goto 119 dX10_look_71 (by decide) ?_
      refine Ev_iinc (x6 + 1) dX10_look_119 rfl rfl (okp_of rfl) ?_
      refine Ev_goto 55 dX10_look_122 (by decide) ?_
      exact h
set_option maxHeartbeats 4000000 in
set_option maxRecDepth 100000 in
theorem X10_looks_ok {d : Nat}  {μ μ' : Mem} (h : X10_looks_at2 d 0 μ μ') : X10_looks d μ μ' := by
  refine Me_of [some (vr 10 0 0), none] rfl (Nat.le_of_ble_eq_true rfl) (by decide) ?_
  refine Ev_iconst 0 dX10_looks_0 (by decide) ?_
  refine Ev_istore_n dX10_looks_1 (Nat.le_of_ble_eq_true rfl) (okp_of rfl) ?_
  exact h
set_option maxHeartbeats 4000000 in
set_option maxRecDepth 100000 in
theorem X10_looks_at2_ok {d : Nat} {x1 : Int32} {μ μ' : Mem} (h : ((9 ≤ x1 → μ' = μ) ∧ (¬ 9 ≤ x1 → vp_in x1 9 ∧ (∀ μ1 : Mem, μ1 = sI μ 31 x1.toNatClampNeg 0 → X10_looks_at2 d (x1 + 1) μ1 μ')))) : X10_looks_at2 d x1 μ μ' := by
  refine Ev_iload_n dX10_looks_2 rfl ?_
  refine Ev_bipush 9 dX10_looks_3 (by decide) ?_
  refine Ev_icmp_ge 21 dX10_looks_5 (by decide) (fun q => ?_) (fun q => ?_)
  · have h := h.1 q
    subst h
    exact R_v rfl dX10_looks_21
  · have h := h.2 q
    refine Ev_aload_n dX10_looks_8 rfl ?_
    refine Ev_getF 11 9 31 flX10_110 rfl dX10_looks_9 ?_
    refine Ev_iload_n dX10_looks_12 rfl ?_
    refine Ev_iconst 0 dX10_looks_13 (by decide) ?_
    obtain ⟨g, h⟩ := h
    refine Ev_iast g dX10_looks_14 ?_
    have h := h _ rfl
    refine Ev_iinc (x1 + 1) dX10_looks_15 rfl rfl (okp_of rfl) ?_
    refine Ev_goto 2 dX10_looks_18 (by decide) ?_
    exact h
set_option maxHeartbeats 4000000 in
set_option maxRecDepth 100000 in
theorem X10_loom_ok {d : Nat} {x1 : Int32} {x2 : Int32} {μ μ' : Mem} {x : Int32} (h : (∃ (y3 : Int32) (μ1 : Mem), X10_isLoom d x1 μ y3 μ1 ∧ ((y3 ≠ 0 → ((x2 = 0 → vp_in ((4 * (μ1.1 0 18)) + x1) 8 ∧ (x = μ1.1 16 (((4 * (μ1.1 0 18)) + x1).toNatClampNeg) ∧ μ' = μ1)) ∧ (x2 = 1 → vp_in (48 + x1) 92 ∧ (x = μ1.1 33 ((48 + x1).toNatClampNeg) ∧ μ' = μ1)) ∧ (x2 = 2 → vp_in (52 + x1) 92 ∧ (((μ1.1 33 ((52 + x1).toNatClampNeg)) ≠ 0 → vp_in ((44 + (4 * x2)) + x1) 92 ∧ (x = μ1.1 33 (((44 + (4 * x2)) + x1).toNatClampNeg) ∧ μ' = μ1)) ∧ ((μ1.1 33 ((52 + x1).toNatClampNeg)) = 0 → (x = (-2) ∧ μ' = μ1)))) ∧ (x2 = 3 → vp_in (52 + x1) 92 ∧ (((μ1.1 33 ((52 + x1).toNatClampNeg)) ≠ 0 → vp_in ((44 + (4 * x2)) + x1) 92 ∧ (x = μ1.1 33 (((44 + (4 * x2)) + x1).toNatClampNeg) ∧ μ' = μ1)) ∧ ((μ1.1 33 ((52 + x1).toNatClampNeg)) = 0 → (x = (-2) ∧ μ' = μ1)))) ∧ (x2 = 4 → vp_in (52 + x1) 92 ∧ (((μ1.1 33 ((52 + x1).toNatClampNeg)) ≠ 0 → vp_in ((44 + (4 * x2)) + x1) 92 ∧ (x = μ1.1 33 (((44 + (4 * x2)) + x1).toNatClampNeg) ∧ μ' = μ1)) ∧ ((μ1.1 33 ((52 + x1).toNatClampNeg)) = 0 → (x = (-2) ∧ μ' = μ1)))) ∧ (x2 = 5 → vp_in (52 + x1) 92 ∧ (((μ1.1 33 ((52 + x1).toNatClampNeg)) ≠ 0 → vp_in ((44 + (4 * x2)) + x1) 92 ∧ (x = μ1.1 33 (((44 + (4 * x2)) + x1).toNatClampNeg) ∧ μ' = μ1)) ∧ ((μ1.1 33 ((52 + x1).toNatClampNeg)) = 0 → (x = (-2) ∧ μ' = μ1)))) ∧ (x2 = 6 → vp_in ((44 + (4 * x2)) + x1) 92 ∧ (x = μ1.1 33 (((44 + (4 * x2)) + x1).toNatClampNeg) ∧ μ' = μ1)) ∧ (x2 = 7 → vp_in ((44 + (4 * x2)) + x1) 92 ∧ (x = μ1.1 33 (((44 + (4 * x2)) + x1).toNatClampNeg) ∧ μ' = μ1)) ∧ (((x2).toInt < 0 ∨ 7 < (x2).toInt) → (x = (-1) ∧ μ' = μ1)))) ∧ (y3 = 0 → (x = (-1) ∧ μ' = μ1))))) : X10_loom (d + 1) x1 x2 μ x μ' := by
  refine Me_of [some (vr 10 0 0), some (vi x1), some (vi x2)] rfl (Nat.le_of_ble_eq_true rfl) (by decide) ?_
  refine Ev_aload_n dX10_loom_0 rfl ?_
  refine Ev_iload_n dX10_loom_1 rfl ?_
  obtain ⟨y3, μ1, hM2, h⟩ := h
  refine Ev_callV [_] mlX10_393 rfl rfl (Nat.le_of_ble_eq_true rfl) dX10_loom_2 hM2 ?_
  refine Ev_if_ne 10 dX10_loom_5 (by decide) (fun q => ?_) (fun q => ?_)
  · have h := h.1 q
    refine Ev_iload_n dX10_loom_10 rfl ?_
    refine Ev_tab 125 dX10_loom_11 (by decide) (fun k hk e => ?_) (fun q => ?_)
    · rcases (show k = 0 ∨ k = 1 ∨ k = 2 ∨ k = 3 ∨ k = 4 ∨ k = 5 ∨ k = 6 ∨ k = 7 by omega) with rfl | rfl | rfl | rfl | rfl | rfl | rfl | rfl
      · have h := h.1 (Int32.toInt_inj.mp (e.trans (by decide)))
        refine ⟨_, 56, rfl, by decide, ?_⟩
        refine Ev_aload_n dX10_loom_56 rfl ?_
        refine Ev_getF 11 8 16 flX10_64 rfl dX10_loom_57 ?_
        refine Ev_iconst 4 dX10_loom_60 (by decide) ?_
        refine Ev_aload_n dX10_loom_61 rfl ?_
        refine Ev_getI flX10_239 rfl dX10_loom_62 ?_
        refine Ev_imul dX10_loom_65 ?_
        refine Ev_iload_n dX10_loom_66 rfl ?_
        refine Ev_iadd dX10_loom_67 ?_
        obtain ⟨g, h⟩ := h
        refine Ev_iald g dX10_loom_68 ?_
        obtain ⟨rfl, rfl⟩ := h
        exact R_i rfl dX10_loom_69 rfl
      · have h := h.2.1 (Int32.toInt_inj.mp (e.trans (by decide)))
        refine ⟨_, 70, rfl, by decide, ?_⟩
        refine Ev_aload_n dX10_loom_70 rfl ?_
        refine Ev_getF 11 92 33 flX10_116 rfl dX10_loom_71 ?_
        refine Ev_bipush 48 dX10_loom_74 (by decide) ?_
        refine Ev_iload_n dX10_loom_76 rfl ?_
        refine Ev_iadd dX10_loom_77 ?_
        obtain ⟨g, h⟩ := h
        refine Ev_iald g dX10_loom_78 ?_
        obtain ⟨rfl, rfl⟩ := h
        exact R_i rfl dX10_loom_79 rfl
      · have h := h.2.2.1 (Int32.toInt_inj.mp (e.trans (by decide)))
        refine ⟨_, 80, rfl, by decide, ?_⟩
        refine Ev_aload_n dX10_loom_80 rfl ?_
        refine Ev_getF 11 92 33 flX10_116 rfl dX10_loom_81 ?_
        refine Ev_bipush 52 dX10_loom_84 (by decide) ?_
        refine Ev_iload_n dX10_loom_86 rfl ?_
        refine Ev_iadd dX10_loom_87 ?_
        obtain ⟨g, h⟩ := h
        refine Ev_iald g dX10_loom_88 ?_
        refine Ev_if_ne 97 dX10_loom_89 (by decide) (fun q => ?_) (fun q => ?_)
        · have h := h.1 q
          refine Ev_aload_n dX10_loom_97 rfl ?_
          refine Ev_getF 11 92 33 flX10_116 rfl dX10_loom_98 ?_
          refine Ev_bipush 44 dX10_loom_101 (by decide) ?_
          refine Ev_iconst 4 dX10_loom_103 (by decide) ?_
          refine Ev_iload_n dX10_loom_104 rfl ?_
          refine Ev_imul dX10_loom_105 ?_
          refine Ev_iadd dX10_loom_106 ?_
          refine Ev_iload_n dX10_loom_107 rfl ?_
          refine Ev_iadd dX10_loom_108 ?_
          obtain ⟨g, h⟩ := h
          refine Ev_iald g dX10_loom_109 ?_
          obtain ⟨rfl, rfl⟩ := h
          exact R_i rfl dX10_loom_110 rfl
        · have h := h.2 q
          refine Ev_bipush (-2) dX10_loom_92 (by decide) ?_
          refine Ev_goto 110 dX10_loom_94 (by decide) ?_
          obtain ⟨rfl, rfl⟩ := h
          exact R_i rfl dX10_loom_110 rfl
      · have h := h.2.2.2.1 (Int32.toInt_inj.mp (e.trans (by decide)))
        refine ⟨_, 80, rfl, by decide, ?_⟩
        refine Ev_aload_n dX10_loom_80 rfl ?_
        refine Ev_getF 11 92 33 flX10_116 rfl dX10_loom_81 ?_
        refine Ev_bipush 52 dX10_loom_84 (by decide) ?_
        refine Ev_iload_n dX10_loom_86 rfl ?_
        refine Ev_iadd dX10_loom_87 ?_
        obtain ⟨g, h⟩ := h
        refine Ev_iald g dX10_loom_88 ?_
        refine Ev_if_ne 97 dX10_loom_89 (by decide) (fun q => ?_) (fun q => ?_)
        · have h := h.1 q
          refine Ev_aload_n dX10_loom_97 rfl ?_
          refine Ev_getF 11 92 33 flX10_116 rfl dX10_loom_98 ?_
          refine Ev_bipush 44 dX10_loom_101 (by decide) ?_
          refine Ev_iconst 4 dX10_loom_103 (by decide) ?_
          refine Ev_iload_n dX10_loom_104 rfl ?_
          refine Ev_imul dX10_loom_105 ?_
          refine Ev_iadd dX10_loom_106 ?_
          refine Ev_iload_n dX10_loom_107 rfl ?_
          refine Ev_iadd dX10_loom_108 ?_
          obtain ⟨g, h⟩ := h
          refine Ev_iald g dX10_loom_109 ?_
          obtain ⟨rfl, rfl⟩ := h
          exact R_i rfl dX10_loom_110 rfl
        · have h := h.2 q
          refine Ev_bipush (-2) dX10_loom_92 (by decide) ?_
          refine Ev_goto 110 dX10_loom_94 (by decide) ?_
          obtain ⟨rfl, rfl⟩ := h
          exact R_i rfl dX10_loom_110 rfl
      · have h := h.2.2.2.2.1 (Int32.toInt_inj.mp (e.trans (by decide)))
        refine ⟨_, 80, rfl, by decide, ?_⟩
        refine Ev_aload_n dX10_loom_80 rfl ?_
        refine Ev_getF 11 92 33 flX10_116 rfl dX10_loom_81 ?_
        refine Ev_bipush 52 dX10_loom_84 (by decide) ?_
        refine Ev_iload_n dX10_loom_86 rfl ?_
        refine Ev_iadd dX10_loom_87 ?_
        obtain ⟨g, h⟩ := h
        refine Ev_iald g dX10_loom_88 ?_
        refine Ev_if_ne 97 dX10_loom_89 (by decide) (fun q => ?_) (fun q => ?_)
        · have h := h.1 q
          refine Ev_aload_n dX10_loom_97 rfl ?_
          refine Ev_getF 11 92 33 flX10_116 rfl dX10_loom_98 ?_
          refine Ev_bipush 44 dX10_loom_101 (by decide) ?_
          refine Ev_iconst 4 dX10_loom_103 (by decide) ?_
          refine Ev_iload_n dX10_loom_104 rfl ?_
          refine Ev_imul dX10_loom_105 ?_
          refine Ev_iadd dX10_loom_106 ?_
          refine Ev_iload_n dX10_loom_107 rfl ?_
          refine Ev_iadd dX10_loom_108 ?_
          obtain ⟨g, h⟩ := h
          refine Ev_iald g dX10_loom_109 ?_
          obtain ⟨rfl, rfl⟩ := h
          exact R_i rfl dX10_loom_110 rfl
        · have h := h.2 q
          refine Ev_bipush (-2) dX10_loom_92 (by decide) ?_
          refine Ev_goto 110 dX10_loom_94 (by decide) ?_
          obtain ⟨rfl, rfl⟩ := h
          exact R_i rfl dX10_loom_110 rfl
      · have h := h.2.2.2.2.2.1 (Int32.toInt_inj.mp (e.trans (by decide)))
        refine ⟨_, 80, rfl, by decide, ?_⟩
        refine Ev_aload_n dX10_loom_80 rfl ?_
        refine Ev_getF 11 92 33 flX10_116 rfl dX10_loom_81 ?_
        refine Ev_bipush 52 dX10_loom_84 (by decide) ?_
        refine Ev_iload_n dX10_loom_86 rfl ?_
        refine Ev_iadd dX10_loom_87 ?_
        obtain ⟨g, h⟩ := h
        refine Ev_iald g dX10_loom_88 ?_
        refine Ev_if_ne 97 dX10_loom_89 (by decide) (fun q => ?_) (fun q => ?_)
        · have h := h.1 q
          refine Ev_aload_n dX10_loom_97 rfl ?_
          refine Ev_getF 11 92 33 flX10_116 rfl dX10_loom_98 ?_
          refine Ev_bipush 44 dX10_loom_101 (by decide) ?_
          refine Ev_iconst 4 dX10_loom_103 (by decide) ?_
          refine Ev_iload_n dX10_loom_104 rfl ?_
          refine Ev_imul dX10_loom_105 ?_
          refine Ev_iadd dX10_loom_106 ?_
          refine Ev_iload_n dX10_loom_107 rfl ?_
          refine Ev_iadd dX10_loom_108 ?_
          obtain ⟨g, h⟩ := h
          refine Ev_iald g dX10_loom_109 ?_
          obtain ⟨rfl, rfl⟩ := h
          exact R_i rfl dX10_loom_110 rfl
        · have h := h.2 q
          refine Ev_bipush (-2) dX10_loom_92 (by decide) ?_
          refine Ev_goto 110 dX10_loom_94 (by decide) ?_
          obtain ⟨rfl, rfl⟩ := h
          exact R_i rfl dX10_loom_110 rfl
      · have h := h.2.2.2.2.2.2.1 (Int32.toInt_inj.mp (e.trans (by decide)))
        refine ⟨_, 111, rfl, by decide, ?_⟩
        refine Ev_aload_n dX10_loom_111 rfl ?_
        refine Ev_getF 11 92 33 flX10_116 rfl dX10_loom_112 ?_
        refine Ev_bipush 44 dX10_loom_115 (by decide) ?_
        refine Ev_iconst 4 dX10_loom_117 (by decide) ?_
        refine Ev_iload_n dX10_loom_118 rfl ?_
        refine Ev_imul dX10_loom_119 ?_
        refine Ev_iadd dX10_loom_120 ?_
        refine Ev_iload_n dX10_loom_121 rfl ?_
        refine Ev_iadd dX10_loom_122 ?_
        obtain ⟨g, h⟩ := h
        refine Ev_iald g dX10_loom_123 ?_
        obtain ⟨rfl, rfl⟩ := h
        exact R_i rfl dX10_loom_124 rfl
      · have h := h.2.2.2.2.2.2.2.1 (Int32.toInt_inj.mp (e.trans (by decide)))
        refine ⟨_, 111, rfl, by decide, ?_⟩
        refine Ev_aload_n dX10_loom_111 rfl ?_
        refine Ev_getF 11 92 33 flX10_116 rfl dX10_loom_112 ?_
        refine Ev_bipush 44 dX10_loom_115 (by decide) ?_
        refine Ev_iconst 4 dX10_loom_117 (by decide) ?_
        refine Ev_iload_n dX10_loom_118 rfl ?_
        refine Ev_imul dX10_loom_119 ?_
        refine Ev_iadd dX10_loom_120 ?_
        refine Ev_iload_n dX10_loom_121 rfl ?_
        refine Ev_iadd dX10_loom_122 ?_
        obtain ⟨g, h⟩ := h
        refine Ev_iald g dX10_loom_123 ?_
        obtain ⟨rfl, rfl⟩ := h
        exact R_i rfl dX10_loom_124 rfl
    · have h := h.2.2.2.2.2.2.2.2 q
      refine Ev_iconst (-1) dX10_loom_125 (by decide) ?_
      obtain ⟨rfl, rfl⟩ := h
      exact R_i rfl dX10_loom_126 rfl
  · have h := h.2 q
    refine Ev_iconst (-1) dX10_loom_8 (by decide) ?_
    obtain ⟨rfl, rfl⟩ := h
    exact R_i rfl dX10_loom_9 rfl
set_option maxHeartbeats 4000000 in
set_option maxRecDepth 100000 in
theorem X10_lotOf_ok {d : Nat} {x1 : Int32} {μ μ' : Mem} {x : Int32} (h : (∃ (y3 : Int32) (μ1 : Mem), X10_mixed d (μ.1 0 52) 75 μ y3 μ1 ∧ (∃ (y6 : Int32) (μ4 : Mem), X10_mixed d y3 x1 μ1 y6 μ4 ∧ (x = ((y6.toUInt32 >>> ((1 : Int32).toUInt32 &&& Int32.toUInt32 31)).toInt32) - ((y6.toUInt32 >>> ((1 : Int32).toUInt32 &&& Int32.toUInt32 31)).toInt32) / 100 * 100 ∧ μ' = μ4)))) : X10_lotOf (d + 1) x1 μ x μ' := by
  refine Me_of [some (vr 10 0 0), some (vi x1)] rfl (Nat.le_of_ble_eq_true rfl) (by decide) ?_
  refine Ev_aload_n dX10_lotOf_0 rfl ?_
  refine Ev_getI flX10_327 rfl dX10_lotOf_1 ?_
  refine Ev_bipush 75 dX10_lotOf_4 (by decide) ?_
  obtain ⟨y3, μ1, hM2, h⟩ := h
  refine Ev_callS [_, _] mlX10_331 rfl rfl (Nat.le_of_ble_eq_true rfl) dX10_lotOf_6 hM2 ?_
  refine Ev_iload_n dX10_lotOf_9 rfl ?_
  obtain ⟨y6, μ4, hM5, h⟩ := h
  refine Ev_callS [_, _] mlX10_331 rfl rfl (Nat.le_of_ble_eq_true rfl) dX10_lotOf_10 hM5 ?_
  refine Ev_iconst 1 dX10_lotOf_13 (by decide) ?_
  refine Ev_iushr dX10_lotOf_14 ?_
  refine Ev_bipush 100 dX10_lotOf_15 (by decide) ?_
  refine Ev_irem dX10_lotOf_17 (by decide) ?_
  obtain ⟨rfl, rfl⟩ := h
  exact R_i rfl dX10_lotOf_18 rfl
set_option maxHeartbeats 4000000 in
set_option maxRecDepth 100000 in
theorem X10_mixed_ok {d : Nat} {x0 : Int32} {x1 : Int32} {μ μ' : Mem} {x : Int32} (h : (x = (((x0 ^^^ x1) * 1103515245) + 12345) ^^^ (((((x0 ^^^ x1) * 1103515245) + 12345).toUInt32 >>> ((15 : Int32).toUInt32 &&& Int32.toUInt32 31)).toInt32) ∧ μ' = μ)) : X10_mixed d x0 x1 μ x μ' := by
  refine Me_of [some (vi x0), some (vi x1), none] rfl (Nat.le_of_ble_eq_true rfl) (by decide) ?_
  refine Ev_iload_n dX10_mixed_0 rfl ?_
  refine Ev_iload_n dX10_mixed_1 rfl ?_
  refine Ev_ixor dX10_mixed_2 ?_
  refine Ev_ldcw 1103515245 dX10_mixed_3 (ts7 197 rfl rfl) ?_
  refine Ev_imul dX10_mixed_6 ?_
  refine Ev_sipush 12345 dX10_mixed_7 (by decide) ?_
  refine Ev_iadd dX10_mixed_10 ?_
  refine Ev_istore_n dX10_mixed_11 (Nat.le_of_ble_eq_true rfl) (okp_of rfl) ?_
  refine Ev_iload_n dX10_mixed_12 rfl ?_
  refine Ev_iload_n dX10_mixed_13 rfl ?_
  refine Ev_bipush 15 dX10_mixed_14 (by decide) ?_
  refine Ev_iushr dX10_mixed_16 ?_
  refine Ev_ixor dX10_mixed_17 ?_
  obtain ⟨rfl, rfl⟩ := h
  exact R_i rfl dX10_mixed_18 rfl
set_option maxHeartbeats 4000000 in
set_option maxRecDepth 100000 in
theorem X10_moreBy_ok {d : Nat} {x1 : Int32} {x2 : Int32} {x3 : Int32} {x4 : Int32} {x5 : Int32} {μ μ' : Mem} {x : Int32} (h : (∃ (μ1 : Mem), X10_copies d μ μ1 ∧ (∃ (y5 : Int32) (μ3 : Mem), X10_falls d x1 x2 x3 x4 x5 μ1 y5 μ3 ∧ X10_moreBy_at22 d 0 0 μ3 x μ'))) : X10_moreBy (d + 1) x1 x2 x3 x4 x5 μ x μ' := by
  refine Me_of [some (vr 10 0 0), some (vi x1), some (vi x2), some (vi x3), some (vi x4), some (vi x5), none, none] rfl (Nat.le_of_ble_eq_true rfl) (by decide) ?_
  refine Ev_aload_n dX10_moreBy_0 rfl ?_
  obtain ⟨μ1, hM2, h⟩ := h
  refine Ev_callV [] mlX10_381 rfl rfl (Nat.le_of_ble_eq_true rfl) dX10_moreBy_1 hM2 ?_
  refine Ev_aload_n dX10_moreBy_4 rfl ?_
  refine Ev_iload_n dX10_moreBy_5 rfl ?_
  refine Ev_iload_n dX10_moreBy_6 rfl ?_
  refine Ev_iload_n dX10_moreBy_7 rfl ?_
  refine Ev_iload dX10_moreBy_8 rfl ?_
  refine Ev_iload dX10_moreBy_10 rfl ?_
  obtain ⟨y5, μ3, hM4, h⟩ := h
  refine Ev_callV [_, _, _, _, _] mlX10_362 rfl rfl (Nat.le_of_ble_eq_true rfl) dX10_moreBy_12 hM4 ?_
  refine Ev_pop dX10_moreBy_15 (fun _ z => by cases z) ?_
  refine Ev_iconst 0 dX10_moreBy_16 (by decide) ?_
  refine Ev_istore dX10_moreBy_17 (Nat.le_of_ble_eq_true rfl) (okp_of rfl) ?_
  refine Ev_iconst 0 dX10_moreBy_19 (by decide) ?_
  refine Ev_istore dX10_moreBy_20 (Nat.le_of_ble_eq_true rfl) (okp_of rfl) ?_
  refine Ev_weak ?_ h
  exact And.intro rfl (And.intro trivial (And.intro trivial (And.intro trivial (And.intro trivial (And.intro trivial (And.intro rfl (And.intro rfl (trivial))))))))
set_option maxHeartbeats 4000000 in
set_option maxRecDepth 100000 in
theorem X10_moreBy_at22_ok {d : Nat} {x6 : Int32} {x7 : Int32} {μ μ' : Mem} {x : Int32} (h : ((48 ≤ x7 → (x = x6 ∧ μ' = μ)) ∧ (¬ 48 ≤ x7 → (∃ (y3 : Int32) (μ1 : Mem), X10_isLand d x7 μ y3 μ1 ∧ ((y3 = 0 → X10_moreBy_at22 d x6 (x7 + 1) μ1 x μ') ∧ (¬ y3 = 0 → (∃ (y6 : Int32) (μ4 : Mem), X10_fieldAt d x7 μ1 y6 μ4 ∧ ((0 ≤ y6 → vp_in x7 92 ∧ (∃ (y9 : Int32) (μ7 : Mem), X10_needOf d x7 μ4 y9 μ7 ∧ ((y9 ≤ (μ4.1 33 x7.toNatClampNeg) → vp_in x7 92 ∧ (∃ (y12 : Int32) (μ10 : Mem), X10_drownOf d x7 μ7 y12 μ10 ∧ ((y12 < (μ7.1 33 x7.toNatClampNeg) → X10_moreBy_at22 d x6 (x7 + 1) μ10 x μ') ∧ (¬ y12 < (μ7.1 33 x7.toNatClampNeg) → vp_in x7 92 ∧ (∃ (y15 : Int32) (μ13 : Mem), X10_drownOf d x7 μ10 y15 μ13 ∧ (((μ10.1 34 x7.toNatClampNeg) ≤ y15 → X10_moreBy_at22 d x6 (x7 + 1) μ13 x μ') ∧ (¬ (μ10.1 34 x7.toNatClampNeg) ≤ y15 → X10_moreBy_at22 d (x6 + (-1)) (x7 + 1) μ13 x μ'))))))) ∧ (¬ y9 ≤ (μ4.1 33 x7.toNatClampNeg) → vp_in x7 92 ∧ (∃ (y18 : Int32) (μ16 : Mem), X10_needOf d x7 μ7 y18 μ16 ∧ (((μ7.1 34 x7.toNatClampNeg) < y18 → vp_in x7 92 ∧ (∃ (y21 : Int32) (μ19 : Mem), X10_drownOf d x7 μ16 y21 μ19 ∧ ((y21 < (μ16.1 33 x7.toNatClampNeg) → X10_moreBy_at22 d x6 (x7 + 1) μ19 x μ') ∧ (¬ y21 < (μ16.1 33 x7.toNatClampNeg) → vp_in x7 92 ∧ (∃ (y24 : Int32) (μ22 : Mem), X10_drownOf d x7 μ19 y24 μ22 ∧ (((μ19.1 34 x7.toNatClampNeg) ≤ y24 → X10_moreBy_at22 d x6 (x7 + 1) μ22 x μ') ∧ (¬ (μ19.1 34 x7.toNatClampNeg) ≤ y24 → X10_moreBy_at22 d (x6 + (-1)) (x7 + 1) μ22 x μ'))))))) ∧ (¬ (μ7.1 34 x7.toNatClampNeg) < y18 → vp_in x7 92 ∧ (∃ (y27 : Int32) (μ25 : Mem), X10_drownOf d x7 μ16 y27 μ25 ∧ ((y27 < (μ16.1 33 x7.toNatClampNeg) → X10_moreBy_at22 d (x6 + 1) (x7 + 1) μ25 x μ') ∧ (¬ y27 < (μ16.1 33 x7.toNatClampNeg) → vp_in x7 92 ∧ (∃ (y30 : Int32) (μ28 : Mem), X10_drownOf d x7 μ25 y30 μ28 ∧ (((μ25.1 34 x7.toNatClampNeg) ≤ y30 → X10_moreBy_at22 d (x6 + 1) (x7 + 1) μ28 x μ') ∧ (¬ (μ25.1 34 x7.toNatClampNeg) ≤ y30 → X10_moreBy_at22 d ((x6 + 1) + (-1)) (x7 + 1) μ28 x μ'))))))))))))) ∧ (¬ 0 ≤ y6 → X10_moreBy_at22 d x6 (x7 + 1) μ4 x μ'))))))))) : X10_moreBy_at22 d x6 x7 μ x μ' := by
  refine Ev_iload dX10_moreBy_22 rfl ?_
  refine Ev_bipush 48 dX10_moreBy_24 (by decide) ?_
  refine Ev_icmp_ge 126 dX10_moreBy_26 (by decide) (fun q => ?_) (fun q => ?_)
  · have h := h.1 q
    refine Ev_iload dX10_moreBy_126 rfl ?_
    obtain ⟨rfl, rfl⟩ := h
    exact R_i rfl dX10_moreBy_128 rfl
  · have h := h.2 q
    refine Ev_aload_n dX10_moreBy_29 rfl ?_
    refine Ev_iload dX10_moreBy_30 rfl ?_
    obtain ⟨y3, μ1, hM2, h⟩ := h
    refine Ev_callV [_] mlX10_366 rfl rfl (Nat.le_of_ble_eq_true rfl) dX10_moreBy_32 hM2 ?_
    refine Ev_if_eq 120 dX10_moreBy_35 (by decide) (fun q => ?_) (fun q => ?_)
    · have h := h.1 q
      refine Ev_iinc (x7 + 1) dX10_moreBy_120 rfl rfl (okp_of rfl) ?_
      refine Ev_goto 22 dX10_moreBy_123 (by decide) ?_
      exact h
    · have h := h.2 q
      refine Ev_aload_n dX10_moreBy_38 rfl ?_
      refine Ev_iload dX10_moreBy_39 rfl ?_
      obtain ⟨y6, μ4, hM5, h⟩ := h
      refine Ev_callV [_] mlX10_347 rfl rfl (Nat.le_of_ble_eq_true rfl) dX10_moreBy_41 hM5 ?_
      refine Ev_if_ge 50 dX10_moreBy_44 (by decide) (fun q => ?_) (fun q => ?_)
      · have h := h.1 q
        refine Ev_aload_n dX10_moreBy_50 rfl ?_
        refine Ev_getF 11 92 33 flX10_116 rfl dX10_moreBy_51 ?_
        refine Ev_iload dX10_moreBy_54 rfl ?_
        obtain ⟨g, h⟩ := h
        refine Ev_iald g dX10_moreBy_56 ?_
        refine Ev_aload_n dX10_moreBy_57 rfl ?_
        refine Ev_iload dX10_moreBy_58 rfl ?_
        obtain ⟨y9, μ7, hM8, h⟩ := h
        refine Ev_callV [_] mlX10_350 rfl rfl (Nat.le_of_ble_eq_true rfl) dX10_moreBy_60 hM8 ?_
        refine Ev_icmp_ge 85 dX10_moreBy_63 (by decide) (fun q => ?_) (fun q => ?_)
        · have h := h.1 q
          refine Ev_aload_n dX10_moreBy_85 rfl ?_
          refine Ev_getF 11 92 33 flX10_116 rfl dX10_moreBy_86 ?_
          refine Ev_iload dX10_moreBy_89 rfl ?_
          obtain ⟨g, h⟩ := h
          refine Ev_iald g dX10_moreBy_91 ?_
          refine Ev_aload_n dX10_moreBy_92 rfl ?_
          refine Ev_iload dX10_moreBy_93 rfl ?_
          obtain ⟨y12, μ10, hM11, h⟩ := h
          refine Ev_callV [_] mlX10_353 rfl rfl (Nat.le_of_ble_eq_true rfl) dX10_moreBy_95 hM11 ?_
          refine Ev_icmp_gt 120 dX10_moreBy_98 (by decide) (fun q => ?_) (fun q => ?_)
          · have h := h.1 q
            refine Ev_iinc (x7 + 1) dX10_moreBy_120 rfl rfl (okp_of rfl) ?_
            refine Ev_goto 22 dX10_moreBy_123 (by decide) ?_
            exact h
          · have h := h.2 q
            refine Ev_aload_n dX10_moreBy_101 rfl ?_
            refine Ev_getF 11 92 34 flX10_119 rfl dX10_moreBy_102 ?_
            refine Ev_iload dX10_moreBy_105 rfl ?_
            obtain ⟨g, h⟩ := h
            refine Ev_iald g dX10_moreBy_107 ?_
            refine Ev_aload_n dX10_moreBy_108 rfl ?_
            refine Ev_iload dX10_moreBy_109 rfl ?_
            obtain ⟨y15, μ13, hM14, h⟩ := h
            refine Ev_callV [_] mlX10_353 rfl rfl (Nat.le_of_ble_eq_true rfl) dX10_moreBy_111 hM14 ?_
            refine Ev_icmp_le 120 dX10_moreBy_114 (by decide) (fun q => ?_) (fun q => ?_)
            · have h := h.1 q
              refine Ev_iinc (x7 + 1) dX10_moreBy_120 rfl rfl (okp_of rfl) ?_
              refine Ev_goto 22 dX10_moreBy_123 (by decide) ?_
              exact h
            · have h := h.2 q
              refine Ev_iinc (x6 + (-1)) dX10_moreBy_117 rfl rfl (okp_of rfl) ?_
              refine Ev_iinc (x7 + 1) dX10_moreBy_120 rfl rfl (okp_of rfl) ?_
              refine Ev_goto 22 dX10_moreBy_123 (by decide) ?_
              exact h
        · have h := h.2 q
          refine Ev_aload_n dX10_moreBy_66 rfl ?_
          refine Ev_getF 11 92 34 flX10_119 rfl dX10_moreBy_67 ?_
          refine Ev_iload dX10_moreBy_70 rfl ?_
          obtain ⟨g, h⟩ := h
          refine Ev_iald g dX10_moreBy_72 ?_
          refine Ev_aload_n dX10_moreBy_73 rfl ?_
          refine Ev_iload dX10_moreBy_74 rfl ?_
          obtain ⟨y18, μ16, hM17, h⟩ := h
          refine Ev_callV [_] mlX10_350 rfl rfl (Nat.le_of_ble_eq_true rfl) dX10_moreBy_76 hM17 ?_
          refine Ev_icmp_lt 85 dX10_moreBy_79 (by decide) (fun q => ?_) (fun q => ?_)
          · have h := h.1 q
            refine Ev_aload_n dX10_moreBy_85 rfl ?_
            refine Ev_getF 11 92 33 flX10_116 rfl dX10_moreBy_86 ?_
            refine Ev_iload dX10_moreBy_89 rfl ?_
            obtain ⟨g, h⟩ := h
            refine Ev_iald g dX10_moreBy_91 ?_
            refine Ev_aload_n dX10_moreBy_92 rfl ?_
            refine Ev_iload dX10_moreBy_93 rfl ?_
            obtain ⟨y21, μ19, hM20, h⟩ := h
            refine Ev_callV [_] mlX10_353 rfl rfl (Nat.le_of_ble_eq_true rfl) dX10_moreBy_95 hM20 ?_
            refine Ev_icmp_gt 120 dX10_moreBy_98 (by decide) (fun q => ?_) (fun q => ?_)
            · have h := h.1 q
              refine Ev_iinc (x7 + 1) dX10_moreBy_120 rfl rfl (okp_of rfl) ?_
              refine Ev_goto 22 dX10_moreBy_123 (by decide) ?_
              exact h
            · have h := h.2 q
              refine Ev_aload_n dX10_moreBy_101 rfl ?_
              refine Ev_getF 11 92 34 flX10_119 rfl dX10_moreBy_102 ?_
              refine Ev_iload dX10_moreBy_105 rfl ?_
              obtain ⟨g, h⟩ := h
              refine Ev_iald g dX10_moreBy_107 ?_
              refine Ev_aload_n dX10_moreBy_108 rfl ?_
              refine Ev_iload dX10_moreBy_109 rfl ?_
              obtain ⟨y24, μ22, hM23, h⟩ := h
              refine Ev_callV [_] mlX10_353 rfl rfl (Nat.le_of_ble_eq_true rfl) dX10_moreBy_111 hM23 ?_
              refine Ev_icmp_le 120 dX10_moreBy_114 (by decide) (fun q => ?_) (fun q => ?_)
              · have h := h.1 q
                refine Ev_iinc (x7 + 1) dX10_moreBy_120 rfl rfl (okp_of rfl) ?_
                refine Ev_goto 22 dX10_moreBy_123 (by decide) ?_
                exact h
              · have h := h.2 q
                refine Ev_iinc (x6 + (-1)) dX10_moreBy_117 rfl rfl (okp_of rfl) ?_
                refine Ev_iinc (x7 + 1) dX10_moreBy_120 rfl rfl (okp_of rfl) ?_
                refine Ev_goto 22 dX10_moreBy_123 (by decide) ?_
                exact h
          · have h := h.2 q
            refine Ev_iinc (x6 + 1) dX10_moreBy_82 rfl rfl (okp_of rfl) ?_
            refine Ev_aload_n dX10_moreBy_85 rfl ?_
            refine Ev_getF 11 92 33 flX10_116 rfl dX10_moreBy_86 ?_
            refine Ev_iload dX10_moreBy_89 rfl ?_
            obtain ⟨g, h⟩ := h
            refine Ev_iald g dX10_moreBy_91 ?_
            refine Ev_aload_n dX10_moreBy_92 rfl ?_
            refine Ev_iload dX10_moreBy_93 rfl ?_
            obtain ⟨y27, μ25, hM26, h⟩ := h
            refine Ev_callV [_] mlX10_353 rfl rfl (Nat.le_of_ble_eq_true rfl) dX10_moreBy_95 hM26 ?_
            refine Ev_icmp_gt 120 dX10_moreBy_98 (by decide) (fun q => ?_) (fun q => ?_)
            · have h := h.1 q
              refine Ev_iinc (x7 + 1) dX10_moreBy_120 rfl rfl (okp_of rfl) ?_
              refine Ev_goto 22 dX10_moreBy_123 (by decide) ?_
              exact h
            · have h := h.2 q
              refine Ev_aload_n dX10_moreBy_101 rfl ?_
              refine Ev_getF 11 92 34 flX10_119 rfl dX10_moreBy_102 ?_
              refine Ev_iload dX10_moreBy_105 rfl ?_
              obtain ⟨g, h⟩ := h
              refine Ev_iald g dX10_moreBy_107 ?_
              refine Ev_aload_n dX10_moreBy_108 rfl ?_
              refine Ev_iload dX10_moreBy_109 rfl ?_
              obtain ⟨y30, μ28, hM29, h⟩ := h
              refine Ev_callV [_] mlX10_353 rfl rfl (Nat.le_of_ble_eq_true rfl) dX10_moreBy_111 hM29 ?_
              refine Ev_icmp_le 120 dX10_moreBy_114 (by decide) (fun q => ?_) (fun q => ?_)
              · have h := h.1 q
                refine Ev_iinc (x7 + 1) dX10_moreBy_120 rfl rfl (okp_of rfl) ?_
                refine Ev_goto 22 dX10_moreBy_123 (by decide) ?_
                exact h
              · have h := h.2 q
                refine Ev_iinc ((x6 + 1) + (-1)) dX10_moreBy_117 rfl rfl (okp_of rfl) ?_
                refine Ev_iinc (x7 + 1) dX10_moreBy_120 rfl rfl (okp_of rfl) ?_
                refine Ev_goto 22 dX10_moreBy_123 (by decide) ?_
                exact h
      · have h := h.2 q
        refine Ev_goto 120 dX10_moreBy_47 (by decide) ?_
        refine Ev_iinc (x7 + 1) dX10_moreBy_120 rfl rfl (okp_of rfl) ?_
        refine Ev_goto 22 dX10_moreBy_123 (by decide) ?_
        exact h
set_option maxHeartbeats 4000000 in
set_option maxRecDepth 100000 in
theorem X10_moreIn_ok {d : Nat} {x1 : Int32} {μ μ' : Mem} {x : Int32} (h : X10_moreIn_at4 d x1 0 x1 μ x μ') : X10_moreIn d x1 μ x μ' := by
  refine Me_of [some (vr 10 0 0), some (vi x1), none, none] rfl (Nat.le_of_ble_eq_true rfl) (by decide) ?_
  refine Ev_iconst 0 dX10_moreIn_0 (by decide) ?_
  refine Ev_istore_n dX10_moreIn_1 (Nat.le_of_ble_eq_true rfl) (okp_of rfl) ?_
  refine Ev_iload_n dX10_moreIn_2 rfl ?_
  refine Ev_istore_n dX10_moreIn_3 (Nat.le_of_ble_eq_true rfl) (okp_of rfl) ?_
  exact h
set_option maxHeartbeats 4000000 in
set_option maxRecDepth 100000 in
theorem X10_moreIn_at4_ok {d : Nat} {x1 : Int32} {x2 : Int32} {x3 : Int32} {μ μ' : Mem} {x : Int32} (h : (((x1 + 6) ≤ x3 → (x = x2 ∧ μ' = μ)) ∧ (¬ (x1 + 6) ≤ x3 → vp_in x3 92 ∧ vp_in x3 92 ∧ X10_moreIn_at4 d x1 (x2 + ((μ.1 34 x3.toNatClampNeg) - (μ.1 33 x3.toNatClampNeg))) (x3 + 1) μ x μ'))) : X10_moreIn_at4 d x1 x2 x3 μ x μ' := by
  refine Ev_iload_n dX10_moreIn_4 rfl ?_
  refine Ev_iload_n dX10_moreIn_5 rfl ?_
  refine Ev_bipush 6 dX10_moreIn_6 (by decide) ?_
  refine Ev_iadd dX10_moreIn_8 ?_
  refine Ev_icmp_ge 34 dX10_moreIn_9 (by decide) (fun q => ?_) (fun q => ?_)
  · have h := h.1 q
    refine Ev_iload_n dX10_moreIn_34 rfl ?_
    obtain ⟨rfl, rfl⟩ := h
    exact R_i rfl dX10_moreIn_35 rfl
  · have h := h.2 q
    refine Ev_iload_n dX10_moreIn_12 rfl ?_
    refine Ev_aload_n dX10_moreIn_13 rfl ?_
    refine Ev_getF 11 92 34 flX10_119 rfl dX10_moreIn_14 ?_
    refine Ev_iload_n dX10_moreIn_17 rfl ?_
    obtain ⟨g, h⟩ := h
    refine Ev_iald g dX10_moreIn_18 ?_
    refine Ev_aload_n dX10_moreIn_19 rfl ?_
    refine Ev_getF 11 92 33 flX10_116 rfl dX10_moreIn_20 ?_
    refine Ev_iload_n dX10_moreIn_23 rfl ?_
    obtain ⟨g, h⟩ := h
    refine Ev_iald g dX10_moreIn_24 ?_
    refine Ev_isub dX10_moreIn_25 ?_
    refine Ev_iadd dX10_moreIn_26 ?_
    refine Ev_istore_n dX10_moreIn_27 (Nat.le_of_ble_eq_true rfl) (okp_of rfl) ?_
    refine Ev_iinc (x3 + 1) dX10_moreIn_28 rfl rfl (okp_of rfl) ?_
    refine Ev_goto 4 dX10_moreIn_31 (by decide) ?_
    exact h
set_option maxHeartbeats 4000000 in
set_option maxRecDepth 100000 in
theorem X10_must_ok {d : Nat} {x1 : Int32} {μ μ' : Mem} (h : (∃ (y3 : Int32) (μ1 : Mem), X10_is d x1 μ y3 μ1 ∧ ((y3 = 0 → (∃ (μ4 : Mem), X10_fail d 1 μ1 μ4 ∧ μ' = μ4)) ∧ (¬ y3 = 0 → (∃ (μ6 : Mem), X10_goesOn d μ1 μ6 ∧ μ' = μ6))))) : X10_must (d + 1) x1 μ μ' := by
  refine Me_of [some (vr 10 0 0), some (vi x1)] rfl (Nat.le_of_ble_eq_true rfl) (by decide) ?_
  refine Ev_aload_n dX10_must_0 rfl ?_
  refine Ev_iload_n dX10_must_1 rfl ?_
  obtain ⟨y3, μ1, hM2, h⟩ := h
  refine Ev_callV [_] mlX10_227 rfl rfl (Nat.le_of_ble_eq_true rfl) dX10_must_2 hM2 ?_
  refine Ev_if_eq 15 dX10_must_5 (by decide) (fun q => ?_) (fun q => ?_)
  · have h := h.1 q
    refine Ev_aload_n dX10_must_15 rfl ?_
    refine Ev_iconst 1 dX10_must_16 (by decide) ?_
    obtain ⟨μ4, hM5, h⟩ := h
    refine Ev_callV [_] mlX10_224 rfl rfl (Nat.le_of_ble_eq_true rfl) dX10_must_17 hM5 ?_
    subst h
    exact R_v rfl dX10_must_20
  · have h := h.2 q
    refine Ev_aload_n dX10_must_8 rfl ?_
    obtain ⟨μ6, hM7, h⟩ := h
    refine Ev_callV [] mlX10_230 rfl rfl (Nat.le_of_ble_eq_true rfl) dX10_must_9 hM7 ?_
    refine Ev_goto 20 dX10_must_12 (by decide) ?_
    subst h
    exact R_v rfl dX10_must_20
set_option maxHeartbeats 4000000 in
set_option maxRecDepth 100000 in
theorem X10_named_ok {d : Nat}  {μ μ' : Mem} {x : Int32} (h : (∃ (μ1 : Mem), X10_must d 1 μ μ1 ∧ X10_named_at12 d (μ.1 0 11) 0 μ1 x μ')) : X10_named (d + 1) μ x μ' := by
  refine Me_of [some (vr 10 0 0), none, none] rfl (Nat.le_of_ble_eq_true rfl) (by decide) ?_
  refine Ev_aload_n dX10_named_0 rfl ?_
  refine Ev_getI flX10_212 rfl dX10_named_1 ?_
  refine Ev_istore_n dX10_named_4 (Nat.le_of_ble_eq_true rfl) (okp_of rfl) ?_
  refine Ev_aload_n dX10_named_5 rfl ?_
  refine Ev_iconst 1 dX10_named_6 (by decide) ?_
  obtain ⟨μ1, hM2, h⟩ := h
  refine Ev_callV [_] mlX10_287 rfl rfl (Nat.le_of_ble_eq_true rfl) dX10_named_7 hM2 ?_
  refine Ev_iconst 0 dX10_named_10 (by decide) ?_
  refine Ev_istore_n dX10_named_11 (Nat.le_of_ble_eq_true rfl) (okp_of rfl) ?_
  exact h
set_option maxHeartbeats 4000000 in
set_option maxRecDepth 100000 in
theorem X10_named_at12_ok {d : Nat} {x1 : Int32} {x2 : Int32} {μ μ' : Mem} {x : Int32} (h : (((μ.1 0 20) ≤ x2 → (x = x1 ∧ μ' = μ)) ∧ (¬ (μ.1 0 20) ≤ x2 → (((μ.1 0 13) ≠ 0 → (x = x1 ∧ μ' = μ)) ∧ ((μ.1 0 13) = 0 → vp_in x2 10 ∧ vp_in x1 403 ∧ (((lg_cmp (μ.2.1 8 x2.toNatClampNeg) (μ.2.1 6 x1.toNatClampNeg)) ≠ 0 → X10_named_at12 d x1 (x2 + 1) μ x μ') ∧ ((lg_cmp (μ.2.1 8 x2.toNatClampNeg) (μ.2.1 6 x1.toNatClampNeg)) = 0 → (∃ (μ1 : Mem), X10_wrong d 3 x1 μ μ1 ∧ X10_named_at12 d x1 (x2 + 1) μ1 x μ')))))))) : X10_named_at12 d x1 x2 μ x μ' := by
  refine Ev_iload_n dX10_named_12 rfl ?_
  refine Ev_aload_n dX10_named_13 rfl ?_
  refine Ev_getI flX10_245 rfl dX10_named_14 ?_
  refine Ev_icmp_ge 55 dX10_named_17 (by decide) (fun q => ?_) (fun q => ?_)
  · have h := h.1 q
    refine Ev_iload_n dX10_named_55 rfl ?_
    obtain ⟨rfl, rfl⟩ := h
    exact R_i rfl dX10_named_56 rfl
  · have h := h.2 q
    refine Ev_aload_n dX10_named_20 rfl ?_
    refine Ev_getI flX10_209 rfl dX10_named_21 ?_
    refine Ev_if_ne 55 dX10_named_24 (by decide) (fun q => ?_) (fun q => ?_)
    · have h := h.1 q
      refine Ev_iload_n dX10_named_55 rfl ?_
      obtain ⟨rfl, rfl⟩ := h
      exact R_i rfl dX10_named_56 rfl
    · have h := h.2 q
      refine Ev_aload_n dX10_named_27 rfl ?_
      refine Ev_getF 13 10 8 flX10_40 rfl dX10_named_28 ?_
      refine Ev_iload_n dX10_named_31 rfl ?_
      obtain ⟨g, h⟩ := h
      refine Ev_lald g dX10_named_32 ?_
      refine Ev_aload_n dX10_named_33 rfl ?_
      refine Ev_getF 13 403 6 flX10_30 rfl dX10_named_34 ?_
      refine Ev_iload_n dX10_named_37 rfl ?_
      obtain ⟨g, h⟩ := h
      refine Ev_lald g dX10_named_38 ?_
      refine Ev_lcmp dX10_named_39 ?_
      refine Ev_if_ne 49 dX10_named_40 (by decide) (fun q => ?_) (fun q => ?_)
      · have h := h.1 q
        refine Ev_iinc (x2 + 1) dX10_named_49 rfl rfl (okp_of rfl) ?_
        refine Ev_goto 12 dX10_named_52 (by decide) ?_
        exact h
      · have h := h.2 q
        refine Ev_aload_n dX10_named_43 rfl ?_
        refine Ev_iconst 3 dX10_named_44 (by decide) ?_
        refine Ev_iload_n dX10_named_45 rfl ?_
        obtain ⟨μ1, hM2, h⟩ := h
        refine Ev_callV [_, _] mlX10_261 rfl rfl (Nat.le_of_ble_eq_true rfl) dX10_named_46 hM2 ?_
        refine Ev_iinc (x2 + 1) dX10_named_49 rfl rfl (okp_of rfl) ?_
        refine Ev_goto 12 dX10_named_52 (by decide) ?_
        exact h
set_option maxHeartbeats 4000000 in
set_option maxRecDepth 100000 in
theorem X10_needAll_ok {d : Nat} {x1 : Int32} {μ μ' : Mem} {x : Int32} (h : (∃ (y3 : Int32) (μ1 : Mem), X10_cellsOf d x1 μ y3 μ1 ∧ vp_in ((6 * (μ1.1 0 18)) + x1) 12 ∧ (x = y3 * (μ1.1 13 (((6 * (μ1.1 0 18)) + x1).toNatClampNeg)) ∧ μ' = μ1))) : X10_needAll (d + 1) x1 μ x μ' := by
  refine Me_of [some (vr 10 0 0), some (vi x1)] rfl (Nat.le_of_ble_eq_true rfl) (by decide) ?_
  refine Ev_aload_n dX10_needAll_0 rfl ?_
  refine Ev_iload_n dX10_needAll_1 rfl ?_
  obtain ⟨y3, μ1, hM2, h⟩ := h
  refine Ev_callV [_] mlX10_384 rfl rfl (Nat.le_of_ble_eq_true rfl) dX10_needAll_2 hM2 ?_
  refine Ev_aload_n dX10_needAll_5 rfl ?_
  refine Ev_getF 11 12 13 flX10_55 rfl dX10_needAll_6 ?_
  refine Ev_bipush 6 dX10_needAll_9 (by decide) ?_
  refine Ev_aload_n dX10_needAll_11 rfl ?_
  refine Ev_getI flX10_239 rfl dX10_needAll_12 ?_
  refine Ev_imul dX10_needAll_15 ?_
  refine Ev_iload_n dX10_needAll_16 rfl ?_
  refine Ev_iadd dX10_needAll_17 ?_
  obtain ⟨g, h⟩ := h
  refine Ev_iald g dX10_needAll_18 ?_
  refine Ev_imul dX10_needAll_19 ?_
  obtain ⟨rfl, rfl⟩ := h
  exact R_i rfl dX10_needAll_20 rfl
set_option maxHeartbeats 4000000 in
set_option maxRecDepth 100000 in
theorem X10_needOf_ok {d : Nat} {x1 : Int32} {μ μ' : Mem} {x : Int32} (h : (∃ (y3 : Int32) (μ1 : Mem), X10_fieldAt d x1 μ y3 μ1 ∧ ((0 ≤ y3 → (∃ (y6 : Int32) (μ4 : Mem), X10_fieldAt d x1 μ1 y6 μ4 ∧ vp_in ((6 * (μ1.1 0 18)) + y6) 12 ∧ (x = μ4.1 13 (((6 * (μ1.1 0 18)) + y6).toNatClampNeg) ∧ μ' = μ4))) ∧ (¬ 0 ≤ y3 → (x = 0 ∧ μ' = μ1))))) : X10_needOf (d + 1) x1 μ x μ' := by
  refine Me_of [some (vr 10 0 0), some (vi x1)] rfl (Nat.le_of_ble_eq_true rfl) (by decide) ?_
  refine Ev_aload_n dX10_needOf_0 rfl ?_
  refine Ev_iload_n dX10_needOf_1 rfl ?_
  obtain ⟨y3, μ1, hM2, h⟩ := h
  refine Ev_callV [_] mlX10_347 rfl rfl (Nat.le_of_ble_eq_true rfl) dX10_needOf_2 hM2 ?_
  refine Ev_if_ge 12 dX10_needOf_5 (by decide) (fun q => ?_) (fun q => ?_)
  · have h := h.1 q
    refine Ev_aload_n dX10_needOf_12 rfl ?_
    refine Ev_getF 11 12 13 flX10_55 rfl dX10_needOf_13 ?_
    refine Ev_bipush 6 dX10_needOf_16 (by decide) ?_
    refine Ev_aload_n dX10_needOf_18 rfl ?_
    refine Ev_getI flX10_239 rfl dX10_needOf_19 ?_
    refine Ev_imul dX10_needOf_22 ?_
    refine Ev_aload_n dX10_needOf_23 rfl ?_
    refine Ev_iload_n dX10_needOf_24 rfl ?_
    obtain ⟨y6, μ4, hM5, h⟩ := h
    refine Ev_callV [_] mlX10_347 rfl rfl (Nat.le_of_ble_eq_true rfl) dX10_needOf_25 hM5 ?_
    refine Ev_iadd dX10_needOf_28 ?_
    obtain ⟨g, h⟩ := h
    refine Ev_iald g dX10_needOf_29 ?_
    obtain ⟨rfl, rfl⟩ := h
    exact R_i rfl dX10_needOf_30 rfl
  · have h := h.2 q
    refine Ev_iconst 0 dX10_needOf_8 (by decide) ?_
    refine Ev_goto 30 dX10_needOf_9 (by decide) ?_
    obtain ⟨rfl, rfl⟩ := h
    exact R_i rfl dX10_needOf_30 rfl
set_option maxHeartbeats 4000000 in
set_option maxRecDepth 100000 in
theorem X10_nextPlace_ok {d : Nat} {x1 : Int32} {x2 : Int32} {x3 : Int32} {μ μ' : Mem} {x : Int32} (h : X10_nextPlace_at3 d x1 x3 x2 μ x μ') : X10_nextPlace (d + 1) x1 x2 x3 μ x μ' := by
  refine Me_of [some (vr 10 0 0), some (vi x1), some (vi x2), some (vi x3), none] rfl (Nat.le_of_ble_eq_true rfl) (by decide) ?_
  refine Ev_iload_n dX10_nextPlace_0 rfl ?_
  refine Ev_istore dX10_nextPlace_1 (Nat.le_of_ble_eq_true rfl) (okp_of rfl) ?_
  refine Ev_weak ?_ h
  exact And.intro rfl (And.intro rfl (And.intro trivial (And.intro rfl (And.intro rfl (trivial)))))
set_option maxHeartbeats 4000000 in
set_option maxRecDepth 100000 in
theorem X10_nextPlace_at3_ok {d : Nat} {x1 : Int32} {x3 : Int32} {x4 : Int32} {μ μ' : Mem} {x : Int32} (h : vp_in x1 4 ∧ (((8 * ((x3 - (μ.1 37 x1.toNatClampNeg)) + 1)) ≤ x4 → (x = (-1) ∧ μ' = μ)) ∧ (¬ (8 * ((x3 - (μ.1 37 x1.toNatClampNeg)) + 1)) ≤ x4 → vp_in x1 4 ∧ ((8 < ((x4 - x4 / 8 * 8) + (μ.1 36 x1.toNatClampNeg)) → X10_nextPlace_at3 d x1 x3 (x4 + 1) μ x μ') ∧ (¬ 8 < ((x4 - x4 / 8 * 8) + (μ.1 36 x1.toNatClampNeg)) → (∃ (y3 : Int32) (μ1 : Mem), X10_isFree d x1 x4 μ y3 μ1 ∧ ((y3 = 0 → X10_nextPlace_at3 d x1 x3 (x4 + 1) μ1 x μ') ∧ (¬ y3 = 0 → (x = x4 ∧ μ' = μ1))))))))) : X10_nextPlace_at3 d x1 x3 x4 μ x μ' := by
  refine Ev_iload dX10_nextPlace_3 rfl ?_
  refine Ev_bipush 8 dX10_nextPlace_5 (by decide) ?_
  refine Ev_iload_n dX10_nextPlace_7 rfl ?_
  refine Ev_aload_n dX10_nextPlace_8 rfl ?_
  refine Ev_getF 11 4 37 flX10_128 rfl dX10_nextPlace_9 ?_
  refine Ev_iload_n dX10_nextPlace_12 rfl ?_
  obtain ⟨g, h⟩ := h
  refine Ev_iald g dX10_nextPlace_13 ?_
  refine Ev_isub dX10_nextPlace_14 ?_
  refine Ev_iconst 1 dX10_nextPlace_15 (by decide) ?_
  refine Ev_iadd dX10_nextPlace_16 ?_
  refine Ev_imul dX10_nextPlace_17 ?_
  refine Ev_icmp_ge 57 dX10_nextPlace_18 (by decide) (fun q => ?_) (fun q => ?_)
  · have h := h.1 q
    refine Ev_iconst (-1) dX10_nextPlace_57 (by decide) ?_
    obtain ⟨rfl, rfl⟩ := h
    exact R_i rfl dX10_nextPlace_58 rfl
  · have h := h.2 q
    refine Ev_iload dX10_nextPlace_21 rfl ?_
    refine Ev_bipush 8 dX10_nextPlace_23 (by decide) ?_
    refine Ev_irem dX10_nextPlace_25 (by decide) ?_
    refine Ev_aload_n dX10_nextPlace_26 rfl ?_
    refine Ev_getF 11 4 36 flX10_125 rfl dX10_nextPlace_27 ?_
    refine Ev_iload_n dX10_nextPlace_30 rfl ?_
    obtain ⟨g, h⟩ := h
    refine Ev_iald g dX10_nextPlace_31 ?_
    refine Ev_iadd dX10_nextPlace_32 ?_
    refine Ev_bipush 8 dX10_nextPlace_33 (by decide) ?_
    refine Ev_icmp_gt 51 dX10_nextPlace_35 (by decide) (fun q => ?_) (fun q => ?_)
    · have h := h.1 q
      refine Ev_iinc (x4 + 1) dX10_nextPlace_51 rfl rfl (okp_of rfl) ?_
      refine Ev_goto 3 dX10_nextPlace_54 (by decide) ?_
      exact h
    · have h := h.2 q
      refine Ev_aload_n dX10_nextPlace_38 rfl ?_
      refine Ev_iload_n dX10_nextPlace_39 rfl ?_
      refine Ev_iload dX10_nextPlace_40 rfl ?_
      obtain ⟨y3, μ1, hM2, h⟩ := h
      refine Ev_callV [_, _] mlX10_424 rfl rfl (Nat.le_of_ble_eq_true rfl) dX10_nextPlace_42 hM2 ?_
      refine Ev_if_eq 51 dX10_nextPlace_45 (by decide) (fun q => ?_) (fun q => ?_)
      · have h := h.1 q
        refine Ev_iinc (x4 + 1) dX10_nextPlace_51 rfl rfl (okp_of rfl) ?_
        refine Ev_goto 3 dX10_nextPlace_54 (by decide) ?_
        exact h
      · have h := h.2 q
        refine Ev_iload dX10_nextPlace_48 rfl ?_
        obtain ⟨rfl, rfl⟩ := h
        exact R_i rfl dX10_nextPlace_50 rfl
set_option maxHeartbeats 4000000 in
set_option maxRecDepth 100000 in
theorem X10_now_ok {d : Nat} {x1 : Int32} {x2 : Int32} {μ μ' : Mem} {x : Int32} (h : (∃ (y3 : Int32) (μ1 : Mem), X10_isField d x1 μ y3 μ1 ∧ ((y3 ≠ 0 → (∃ (μ4 : Mem), X10_copies d μ1 μ4 ∧ X10_now_at19 d x1 x2 0 0 μ4 x μ')) ∧ (y3 = 0 → (x = (-1) ∧ μ' = μ1))))) : X10_now (d + 1) x1 x2 μ x μ' := by
  refine Me_of [some (vr 10 0 0), some (vi x1), some (vi x2), none, none] rfl (Nat.le_of_ble_eq_true rfl) (by decide) ?_
  refine Ev_aload_n dX10_now_0 rfl ?_
  refine Ev_iload_n dX10_now_1 rfl ?_
  obtain ⟨y3, μ1, hM2, h⟩ := h
  refine Ev_callV [_] mlX10_387 rfl rfl (Nat.le_of_ble_eq_true rfl) dX10_now_2 hM2 ?_
  refine Ev_if_ne 10 dX10_now_5 (by decide) (fun q => ?_) (fun q => ?_)
  · have h := h.1 q
    refine Ev_aload_n dX10_now_10 rfl ?_
    obtain ⟨μ4, hM5, h⟩ := h
    refine Ev_callV [] mlX10_381 rfl rfl (Nat.le_of_ble_eq_true rfl) dX10_now_11 hM5 ?_
    refine Ev_iconst 0 dX10_now_14 (by decide) ?_
    refine Ev_istore_n dX10_now_15 (Nat.le_of_ble_eq_true rfl) (okp_of rfl) ?_
    refine Ev_iconst 0 dX10_now_16 (by decide) ?_
    refine Ev_istore dX10_now_17 (Nat.le_of_ble_eq_true rfl) (okp_of rfl) ?_
    exact h
  · have h := h.2 q
    refine Ev_iconst (-1) dX10_now_8 (by decide) ?_
    obtain ⟨rfl, rfl⟩ := h
    exact R_i rfl dX10_now_9 rfl
set_option maxHeartbeats 4000000 in
set_option maxRecDepth 100000 in
theorem X10_now_at19_ok {d : Nat} {x1 : Int32} {x2 : Int32} {x3 : Int32} {x4 : Int32} {μ μ' : Mem} {x : Int32} (h : ((48 ≤ x4 → (x = x3 ∧ μ' = μ)) ∧ (¬ 48 ≤ x4 → (∃ (y3 : Int32) (μ1 : Mem), X10_isLand d x4 μ y3 μ1 ∧ ((y3 = 0 → X10_now_at19 d x1 x2 x3 (x4 + 1) μ1 x μ') ∧ (¬ y3 = 0 → (∃ (y6 : Int32) (μ4 : Mem), X10_fieldAt d x4 μ1 y6 μ4 ∧ ((y6 ≠ x1 → X10_now_at19 d x1 x2 x3 (x4 + 1) μ4 x μ') ∧ (y6 = x1 → ((x2 = 0 → (∃ (y9 : Int32) (μ7 : Mem), X10_isLacking d x4 μ4 y9 μ7 ∧ ((y9 = 0 → X10_now_at19 d x1 x2 x3 (x4 + 1) μ7 x μ') ∧ (¬ y9 = 0 → X10_now_at19 d x1 x2 (x3 + 1) (x4 + 1) μ7 x μ')))) ∧ (¬ x2 = 0 → (∃ (y12 : Int32) (μ10 : Mem), X10_isFlooded d x4 μ4 y12 μ10 ∧ ((y12 = 0 → X10_now_at19 d x1 x2 x3 (x4 + 1) μ10 x μ') ∧ (¬ y12 = 0 → X10_now_at19 d x1 x2 (x3 + 1) (x4 + 1) μ10 x μ')))))))))))))) : X10_now_at19 d x1 x2 x3 x4 μ x μ' := by
  refine Ev_iload dX10_now_19 rfl ?_
  refine Ev_bipush 48 dX10_now_21 (by decide) ?_
  refine Ev_icmp_ge 79 dX10_now_23 (by decide) (fun q => ?_) (fun q => ?_)
  · have h := h.1 q
    refine Ev_iload_n dX10_now_79 rfl ?_
    obtain ⟨rfl, rfl⟩ := h
    exact R_i rfl dX10_now_80 rfl
  · have h := h.2 q
    refine Ev_aload_n dX10_now_26 rfl ?_
    refine Ev_iload dX10_now_27 rfl ?_
    obtain ⟨y3, μ1, hM2, h⟩ := h
    refine Ev_callV [_] mlX10_366 rfl rfl (Nat.le_of_ble_eq_true rfl) dX10_now_29 hM2 ?_
    refine Ev_if_eq 73 dX10_now_32 (by decide) (fun q => ?_) (fun q => ?_)
    · have h := h.1 q
      refine Ev_iinc (x4 + 1) dX10_now_73 rfl rfl (okp_of rfl) ?_
      refine Ev_goto 19 dX10_now_76 (by decide) ?_
      exact h
    · have h := h.2 q
      refine Ev_aload_n dX10_now_35 rfl ?_
      refine Ev_iload dX10_now_36 rfl ?_
      obtain ⟨y6, μ4, hM5, h⟩ := h
      refine Ev_callV [_] mlX10_347 rfl rfl (Nat.le_of_ble_eq_true rfl) dX10_now_38 hM5 ?_
      refine Ev_iload_n dX10_now_41 rfl ?_
      refine Ev_icmp_ne 73 dX10_now_42 (by decide) (fun q => ?_) (fun q => ?_)
      · have h := h.1 q
        refine Ev_iinc (x4 + 1) dX10_now_73 rfl rfl (okp_of rfl) ?_
        refine Ev_goto 19 dX10_now_76 (by decide) ?_
        exact h
      · have h := h.2 q
        refine Ev_iload_n dX10_now_45 rfl ?_
        refine Ev_if_eq 61 dX10_now_46 (by decide) (fun q => ?_) (fun q => ?_)
        · have h := h.1 q
          refine Ev_aload_n dX10_now_61 rfl ?_
          refine Ev_iload dX10_now_62 rfl ?_
          obtain ⟨y9, μ7, hM8, h⟩ := h
          refine Ev_callV [_] mlX10_369 rfl rfl (Nat.le_of_ble_eq_true rfl) dX10_now_64 hM8 ?_
          refine Ev_if_eq 73 dX10_now_67 (by decide) (fun q => ?_) (fun q => ?_)
          · have h := h.1 q
            refine Ev_iinc (x4 + 1) dX10_now_73 rfl rfl (okp_of rfl) ?_
            refine Ev_goto 19 dX10_now_76 (by decide) ?_
            exact h
          · have h := h.2 q
            refine Ev_iinc (x3 + 1) dX10_now_70 rfl rfl (okp_of rfl) ?_
            refine Ev_iinc (x4 + 1) dX10_now_73 rfl rfl (okp_of rfl) ?_
            refine Ev_goto 19 dX10_now_76 (by decide) ?_
            exact h
        · have h := h.2 q
          refine Ev_aload_n dX10_now_49 rfl ?_
          refine Ev_iload dX10_now_50 rfl ?_
          obtain ⟨y12, μ10, hM11, h⟩ := h
          refine Ev_callV [_] mlX10_372 rfl rfl (Nat.le_of_ble_eq_true rfl) dX10_now_52 hM11 ?_
          refine Ev_if_eq 73 dX10_now_55 (by decide) (fun q => ?_) (fun q => ?_)
          · have h := h.1 q
            refine Ev_iinc (x4 + 1) dX10_now_73 rfl rfl (okp_of rfl) ?_
            refine Ev_goto 19 dX10_now_76 (by decide) ?_
            exact h
          · have h := h.2 q
            refine Ev_goto 70 dX10_now_58 (by decide) ?_
            refine Ev_iinc (x3 + 1) dX10_now_70 rfl rfl (okp_of rfl) ?_
            refine Ev_iinc (x4 + 1) dX10_now_73 rfl rfl (okp_of rfl) ?_
            refine Ev_goto 19 dX10_now_76 (by decide) ?_
            exact h
set_option maxHeartbeats 4000000 in
set_option maxRecDepth 100000 in
theorem X10_offAll_ok {d : Nat} {x1 : Int32} {μ μ' : Mem} {x : Int32} (h : vp_in (μ.1 0 18) 2 ∧ (∃ (y3 : Int32) (μ1 : Mem), X10_sixes d (μ.1 15 ((μ.1 0 18).toNatClampNeg)) μ y3 μ1 ∧ X10_offAll_at21 d x1 0 0 y3 0 μ1 x μ')) : X10_offAll (d + 1) x1 μ x μ' := by
  refine Me_of [some (vr 10 0 0), some (vi x1), none, none, none, none, none] rfl (Nat.le_of_ble_eq_true rfl) (by decide) ?_
  refine Ev_iconst 0 dX10_offAll_0 (by decide) ?_
  refine Ev_istore_n dX10_offAll_1 (Nat.le_of_ble_eq_true rfl) (okp_of rfl) ?_
  refine Ev_iconst 0 dX10_offAll_2 (by decide) ?_
  refine Ev_istore_n dX10_offAll_3 (Nat.le_of_ble_eq_true rfl) (okp_of rfl) ?_
  refine Ev_aload_n dX10_offAll_4 rfl ?_
  refine Ev_getF 11 2 15 flX10_61 rfl dX10_offAll_5 ?_
  refine Ev_aload_n dX10_offAll_8 rfl ?_
  refine Ev_getI flX10_239 rfl dX10_offAll_9 ?_
  obtain ⟨g, h⟩ := h
  refine Ev_iald g dX10_offAll_12 ?_
  obtain ⟨y3, μ1, hM2, h⟩ := h
  refine Ev_callS [_] mlX10_448 rfl rfl (Nat.le_of_ble_eq_true rfl) dX10_offAll_13 hM2 ?_
  refine Ev_istore dX10_offAll_16 (Nat.le_of_ble_eq_true rfl) (okp_of rfl) ?_
  refine Ev_iconst 0 dX10_offAll_18 (by decide) ?_
  refine Ev_istore dX10_offAll_19 (Nat.le_of_ble_eq_true rfl) (okp_of rfl) ?_
  exact h
set_option maxHeartbeats 4000000 in
set_option maxRecDepth 100000 in
theorem X10_offAll_at21_ok {d : Nat} {x1 : Int32} {x2 : Int32} {x3 : Int32} {x4 : Int32} {x5 : Int32} {μ μ' : Mem} {x : Int32} (h : vp_in (μ.1 0 18) 2 ∧ (((μ.1 15 ((μ.1 0 18).toNatClampNeg)) ≤ x5 → (x = x3 ∧ μ' = μ)) ∧ (¬ (μ.1 15 ((μ.1 0 18).toNatClampNeg)) ≤ x5 → ¬ (x4 / 6) = 0 ∧ (∃ (y3 : Int32) (μ1 : Mem), X10_isField d ((x1 / (x4 / 6)) - (x1 / (x4 / 6)) / 6 * 6) μ y3 μ1 ∧ ((y3 = 0 → (x = (-1) ∧ μ' = μ1)) ∧ (¬ y3 = 0 → ((((x2 >>> (((x1 / (x4 / 6)) - (x1 / (x4 / 6)) / 6 * 6) &&& 31)) &&& 1) ≠ 1 → vp_in ((6 * x5) + ((x1 / (x4 / 6)) - (x1 / (x4 / 6)) / 6 * 6)) 24 ∧ X10_offAll_at21 d x1 (x2 ||| (1 <<< (((x1 / (x4 / 6)) - (x1 / (x4 / 6)) / 6 * 6) &&& 31))) (x3 + (μ1.1 40 (((6 * x5) + ((x1 / (x4 / 6)) - (x1 / (x4 / 6)) / 6 * 6)).toNatClampNeg))) (x4 / 6) (x5 + 1) μ1 x μ') ∧ (((x2 >>> (((x1 / (x4 / 6)) - (x1 / (x4 / 6)) / 6 * 6) &&& 31)) &&& 1) = 1 → (x = (-1) ∧ μ' = μ1))))))))) : X10_offAll_at21 d x1 x2 x3 x4 x5 μ x μ' := by
  refine Ev_iload dX10_offAll_21 rfl ?_
  refine Ev_aload_n dX10_offAll_23 rfl ?_
  refine Ev_getF 11 2 15 flX10_61 rfl dX10_offAll_24 ?_
  refine Ev_aload_n dX10_offAll_27 rfl ?_
  refine Ev_getI flX10_239 rfl dX10_offAll_28 ?_
  obtain ⟨g, h⟩ := h
  refine Ev_iald g dX10_offAll_31 ?_
  refine Ev_icmp_ge 101 dX10_offAll_32 (by decide) (fun q => ?_) (fun q => ?_)
  · have h := h.1 q
    refine Ev_iload_n dX10_offAll_101 rfl ?_
    obtain ⟨rfl, rfl⟩ := h
    exact R_i rfl dX10_offAll_102 rfl
  · have h := h.2 q
    refine Ev_iload dX10_offAll_35 rfl ?_
    refine Ev_bipush 6 dX10_offAll_37 (by decide) ?_
    refine Ev_idiv dX10_offAll_39 (by decide) ?_
    refine Ev_istore dX10_offAll_40 (Nat.le_of_ble_eq_true rfl) (okp_of rfl) ?_
    refine Ev_iload_n dX10_offAll_42 rfl ?_
    refine Ev_iload dX10_offAll_43 rfl ?_
    obtain ⟨g, h⟩ := h
    refine Ev_idiv dX10_offAll_45 g ?_
    refine Ev_bipush 6 dX10_offAll_46 (by decide) ?_
    refine Ev_irem dX10_offAll_48 (by decide) ?_
    refine Ev_istore dX10_offAll_49 (Nat.le_of_ble_eq_true rfl) (okp_of rfl) ?_
    refine Ev_aload_n dX10_offAll_51 rfl ?_
    refine Ev_iload dX10_offAll_52 rfl ?_
    obtain ⟨y3, μ1, hM2, h⟩ := h
    refine Ev_callV [_] mlX10_387 rfl rfl (Nat.le_of_ble_eq_true rfl) dX10_offAll_54 hM2 ?_
    refine Ev_if_eq 70 dX10_offAll_57 (by decide) (fun q => ?_) (fun q => ?_)
    · have h := h.1 q
      refine Ev_iconst (-1) dX10_offAll_70 (by decide) ?_
      obtain ⟨rfl, rfl⟩ := h
      exact R_i rfl dX10_offAll_71 rfl
    · have h := h.2 q
      refine Ev_iload_n dX10_offAll_60 rfl ?_
      refine Ev_iload dX10_offAll_61 rfl ?_
      refine Ev_ishr dX10_offAll_63 ?_
      refine Ev_iconst 1 dX10_offAll_64 (by decide) ?_
      refine Ev_iand dX10_offAll_65 ?_
      refine Ev_iconst 1 dX10_offAll_66 (by decide) ?_
      refine Ev_icmp_ne 72 dX10_offAll_67 (by decide) (fun q => ?_) (fun q => ?_)
      · have h := h.1 q
        refine Ev_iload_n dX10_offAll_72 rfl ?_
        refine Ev_iconst 1 dX10_offAll_73 (by decide) ?_
        refine Ev_iload dX10_offAll_74 rfl ?_
        refine Ev_ishl dX10_offAll_76 ?_
        refine Ev_ior dX10_offAll_77 ?_
        refine Ev_istore_n dX10_offAll_78 (Nat.le_of_ble_eq_true rfl) (okp_of rfl) ?_
        refine Ev_iload_n dX10_offAll_79 rfl ?_
        refine Ev_aload_n dX10_offAll_80 rfl ?_
        refine Ev_getF 11 24 40 flX10_137 rfl dX10_offAll_81 ?_
        refine Ev_bipush 6 dX10_offAll_84 (by decide) ?_
        refine Ev_iload dX10_offAll_86 rfl ?_
        refine Ev_imul dX10_offAll_88 ?_
        refine Ev_iload dX10_offAll_89 rfl ?_
        refine Ev_iadd dX10_offAll_91 ?_
        obtain ⟨g, h⟩ := h
        refine Ev_iald g dX10_offAll_92 ?_
        refine Ev_iadd dX10_offAll_93 ?_
        refine Ev_istore_n dX10_offAll_94 (Nat.le_of_ble_eq_true rfl) (okp_of rfl) ?_
        refine Ev_iinc (x5 + 1) dX10_offAll_95 rfl rfl (okp_of rfl) ?_
        refine Ev_goto 21 dX10_offAll_98 (by decide) ?_
        refine Ev_weak ?_ h
        exact And.intro rfl (And.intro rfl (And.intro rfl (And.intro rfl (And.intro rfl (And.intro rfl (And.intro trivial (trivial)))))))
      · have h := h.2 q
        refine Ev_iconst (-1) dX10_offAll_70 (by decide) ?_
        obtain ⟨rfl, rfl⟩ := h
        exact R_i rfl dX10_offAll_71 rfl
set_option maxHeartbeats 4000000 in
set_option maxRecDepth 100000 in
theorem X10_offBy_ok {d : Nat} {x1 : Int32} {x2 : Int32} {x3 : Int32} {x4 : Int32} {μ μ' : Mem} {x : Int32} (h : (∃ (y3 : Int32) (μ1 : Mem), X10_heldBy d x1 x3 x4 μ y3 μ1 ∧ (∃ (y6 : Int32) (μ4 : Mem), X10_needAll d x2 μ1 y6 μ4 ∧ ((0 ≤ (y3 - y6) → (x = y3 - y6 ∧ μ' = μ4)) ∧ (¬ 0 ≤ (y3 - y6) → (x = -(y3 - y6) ∧ μ' = μ4)))))) : X10_offBy (d + 1) x1 x2 x3 x4 μ x μ' := by
  refine Me_of [some (vr 10 0 0), some (vi x1), some (vi x2), some (vi x3), some (vi x4), none] rfl (Nat.le_of_ble_eq_true rfl) (by decide) ?_
  refine Ev_aload_n dX10_offBy_0 rfl ?_
  refine Ev_iload_n dX10_offBy_1 rfl ?_
  refine Ev_iload_n dX10_offBy_2 rfl ?_
  refine Ev_iload dX10_offBy_3 rfl ?_
  obtain ⟨y3, μ1, hM2, h⟩ := h
  refine Ev_callV [_, _, _] mlX10_405 rfl rfl (Nat.le_of_ble_eq_true rfl) dX10_offBy_5 hM2 ?_
  refine Ev_aload_n dX10_offBy_8 rfl ?_
  refine Ev_iload_n dX10_offBy_9 rfl ?_
  obtain ⟨y6, μ4, hM5, h⟩ := h
  refine Ev_callV [_] mlX10_390 rfl rfl (Nat.le_of_ble_eq_true rfl) dX10_offBy_10 hM5 ?_
  refine Ev_isub dX10_offBy_13 ?_
  refine Ev_istore dX10_offBy_14 (Nat.le_of_ble_eq_true rfl) (okp_of rfl) ?_
  refine Ev_iload dX10_offBy_16 rfl ?_
  refine Ev_if_ge 27 dX10_offBy_18 (by decide) (fun q => ?_) (fun q => ?_)
  · have h := h.1 q
    refine Ev_iload dX10_offBy_27 rfl ?_
    obtain ⟨rfl, rfl⟩ := h
    exact R_i rfl dX10_offBy_29 rfl
  · have h := h.2 q
    refine Ev_iload dX10_offBy_21 rfl ?_
    refine Ev_ineg dX10_offBy_23 ?_
    refine Ev_goto 29 dX10_offBy_24 (by decide) ?_
    obtain ⟨rfl, rfl⟩ := h
    exact R_i rfl dX10_offBy_29 rfl
set_option maxHeartbeats 4000000 in
set_option maxRecDepth 100000 in
theorem X10_order_ok {d : Nat} {x1 : Int32} {x2 : Int32} {x3 : Int32} {x4 : Int32} {x5 : Int32} {μ μ' : Mem} {x : Int32} (h : (∃ (y3 : Int32) (μ1 : Mem), X10_isPiece d x1 x2 x3 μ y3 μ1 ∧ ((y3 = 0 → (x = 0 ∧ μ' = μ1)) ∧ (¬ y3 = 0 → (∃ (y6 : Int32) (μ4 : Mem), X10_isCell d x4 x5 μ1 y6 μ4 ∧ ((y6 = 0 → (x = 0 ∧ μ' = μ4)) ∧ (¬ y6 = 0 → vp_in (52 + x1) 92 ∧ (((μ4.1 33 ((52 + x1).toNatClampNeg)) ≠ x2 → (∃ (μ7 : Mem), X10_copies d μ4 μ7 ∧ vp_in (52 + x1) 92 ∧ (∀ μ9 : Mem, μ9 = sI μ7 34 ((52 + x1).toNatClampNeg) x2 → vp_in (56 + x1) 92 ∧ (∀ μ10 : Mem, μ10 = sI μ9 34 ((56 + x1).toNatClampNeg) x3 → vp_in (60 + x1) 92 ∧ (∀ μ11 : Mem, μ11 = sI μ10 34 ((60 + x1).toNatClampNeg) x4 → vp_in (64 + x1) 92 ∧ (∀ μ12 : Mem, μ12 = sI μ11 34 ((64 + x1).toNatClampNeg) x5 → (∃ (μ13 : Mem), X10_keeps d μ12 μ13 ∧ (x = 1 ∧ μ' = μ13)))))))) ∧ ((μ4.1 33 ((52 + x1).toNatClampNeg)) = x2 → vp_in (56 + x1) 92 ∧ (((μ4.1 33 ((56 + x1).toNatClampNeg)) ≠ x3 → (∃ (μ15 : Mem), X10_copies d μ4 μ15 ∧ vp_in (52 + x1) 92 ∧ (∀ μ17 : Mem, μ17 = sI μ15 34 ((52 + x1).toNatClampNeg) x2 → vp_in (56 + x1) 92 ∧ (∀ μ18 : Mem, μ18 = sI μ17 34 ((56 + x1).toNatClampNeg) x3 → vp_in (60 + x1) 92 ∧ (∀ μ19 : Mem, μ19 = sI μ18 34 ((60 + x1).toNatClampNeg) x4 → vp_in (64 + x1) 92 ∧ (∀ μ20 : Mem, μ20 = sI μ19 34 ((64 + x1).toNatClampNeg) x5 → (∃ (μ21 : Mem), X10_keeps d μ20 μ21 ∧ (x = 1 ∧ μ' = μ21)))))))) ∧ ((μ4.1 33 ((56 + x1).toNatClampNeg)) = x3 → vp_in (60 + x1) 92 ∧ (((μ4.1 33 ((60 + x1).toNatClampNeg)) ≠ x4 → (∃ (μ23 : Mem), X10_copies d μ4 μ23 ∧ vp_in (52 + x1) 92 ∧ (∀ μ25 : Mem, μ25 = sI μ23 34 ((52 + x1).toNatClampNeg) x2 → vp_in (56 + x1) 92 ∧ (∀ μ26 : Mem, μ26 = sI μ25 34 ((56 + x1).toNatClampNeg) x3 → vp_in (60 + x1) 92 ∧ (∀ μ27 : Mem, μ27 = sI μ26 34 ((60 + x1).toNatClampNeg) x4 → vp_in (64 + x1) 92 ∧ (∀ μ28 : Mem, μ28 = sI μ27 34 ((64 + x1).toNatClampNeg) x5 → (∃ (μ29 : Mem), X10_keeps d μ28 μ29 ∧ (x = 1 ∧ μ' = μ29)))))))) ∧ ((μ4.1 33 ((60 + x1).toNatClampNeg)) = x4 → vp_in (64 + x1) 92 ∧ (((μ4.1 33 ((64 + x1).toNatClampNeg)) ≠ x5 → (∃ (μ31 : Mem), X10_copies d μ4 μ31 ∧ vp_in (52 + x1) 92 ∧ (∀ μ33 : Mem, μ33 = sI μ31 34 ((52 + x1).toNatClampNeg) x2 → vp_in (56 + x1) 92 ∧ (∀ μ34 : Mem, μ34 = sI μ33 34 ((56 + x1).toNatClampNeg) x3 → vp_in (60 + x1) 92 ∧ (∀ μ35 : Mem, μ35 = sI μ34 34 ((60 + x1).toNatClampNeg) x4 → vp_in (64 + x1) 92 ∧ (∀ μ36 : Mem, μ36 = sI μ35 34 ((64 + x1).toNatClampNeg) x5 → (∃ (μ37 : Mem), X10_keeps d μ36 μ37 ∧ (x = 1 ∧ μ' = μ37)))))))) ∧ ((μ4.1 33 ((64 + x1).toNatClampNeg)) = x5 → (x = 0 ∧ μ' = μ4)))))))))))))))) : X10_order (d + 1) x1 x2 x3 x4 x5 μ x μ' := by
  refine Me_of [some (vr 10 0 0), some (vi x1), some (vi x2), some (vi x3), some (vi x4), some (vi x5)] rfl (Nat.le_of_ble_eq_true rfl) (by decide) ?_
  refine Ev_aload_n dX10_order_0 rfl ?_
  refine Ev_iload_n dX10_order_1 rfl ?_
  refine Ev_iload_n dX10_order_2 rfl ?_
  refine Ev_iload_n dX10_order_3 rfl ?_
  obtain ⟨y3, μ1, hM2, h⟩ := h
  refine Ev_callV [_, _, _] mlX10_396 rfl rfl (Nat.le_of_ble_eq_true rfl) dX10_order_4 hM2 ?_
  refine Ev_if_eq 75 dX10_order_7 (by decide) (fun q => ?_) (fun q => ?_)
  · have h := h.1 q
    refine Ev_iconst 0 dX10_order_75 (by decide) ?_
    obtain ⟨rfl, rfl⟩ := h
    exact R_i rfl dX10_order_76 rfl
  · have h := h.2 q
    refine Ev_aload_n dX10_order_10 rfl ?_
    refine Ev_iload dX10_order_11 rfl ?_
    refine Ev_iload dX10_order_13 rfl ?_
    obtain ⟨y6, μ4, hM5, h⟩ := h
    refine Ev_callV [_, _] mlX10_343 rfl rfl (Nat.le_of_ble_eq_true rfl) dX10_order_15 hM5 ?_
    refine Ev_if_eq 75 dX10_order_18 (by decide) (fun q => ?_) (fun q => ?_)
    · have h := h.1 q
      refine Ev_iconst 0 dX10_order_75 (by decide) ?_
      obtain ⟨rfl, rfl⟩ := h
      exact R_i rfl dX10_order_76 rfl
    · have h := h.2 q
      refine Ev_aload_n dX10_order_21 rfl ?_
      refine Ev_getF 11 92 33 flX10_116 rfl dX10_order_22 ?_
      refine Ev_bipush 52 dX10_order_25 (by decide) ?_
      refine Ev_iload_n dX10_order_27 rfl ?_
      refine Ev_iadd dX10_order_28 ?_
      obtain ⟨g, h⟩ := h
      refine Ev_iald g dX10_order_29 ?_
      refine Ev_iload_n dX10_order_30 rfl ?_
      refine Ev_icmp_ne 77 dX10_order_31 (by decide) (fun q => ?_) (fun q => ?_)
      · have h := h.1 q
        refine Ev_aload_n dX10_order_77 rfl ?_
        obtain ⟨μ7, hM8, h⟩ := h
        refine Ev_callV [] mlX10_381 rfl rfl (Nat.le_of_ble_eq_true rfl) dX10_order_78 hM8 ?_
        refine Ev_aload_n dX10_order_81 rfl ?_
        refine Ev_getF 11 92 34 flX10_119 rfl dX10_order_82 ?_
        refine Ev_bipush 52 dX10_order_85 (by decide) ?_
        refine Ev_iload_n dX10_order_87 rfl ?_
        refine Ev_iadd dX10_order_88 ?_
        refine Ev_iload_n dX10_order_89 rfl ?_
        obtain ⟨g, h⟩ := h
        refine Ev_iast g dX10_order_90 ?_
        have h := h _ rfl
        refine Ev_aload_n dX10_order_91 rfl ?_
        refine Ev_getF 11 92 34 flX10_119 rfl dX10_order_92 ?_
        refine Ev_bipush 56 dX10_order_95 (by decide) ?_
        refine Ev_iload_n dX10_order_97 rfl ?_
        refine Ev_iadd dX10_order_98 ?_
        refine Ev_iload_n dX10_order_99 rfl ?_
        obtain ⟨g, h⟩ := h
        refine Ev_iast g dX10_order_100 ?_
        have h := h _ rfl
        refine Ev_aload_n dX10_order_101 rfl ?_
        refine Ev_getF 11 92 34 flX10_119 rfl dX10_order_102 ?_
        refine Ev_bipush 60 dX10_order_105 (by decide) ?_
        refine Ev_iload_n dX10_order_107 rfl ?_
        refine Ev_iadd dX10_order_108 ?_
        refine Ev_iload dX10_order_109 rfl ?_
        obtain ⟨g, h⟩ := h
        refine Ev_iast g dX10_order_111 ?_
        have h := h _ rfl
        refine Ev_aload_n dX10_order_112 rfl ?_
        refine Ev_getF 11 92 34 flX10_119 rfl dX10_order_113 ?_
        refine Ev_bipush 64 dX10_order_116 (by decide) ?_
        refine Ev_iload_n dX10_order_118 rfl ?_
        refine Ev_iadd dX10_order_119 ?_
        refine Ev_iload dX10_order_120 rfl ?_
        obtain ⟨g, h⟩ := h
        refine Ev_iast g dX10_order_122 ?_
        have h := h _ rfl
        refine Ev_aload_n dX10_order_123 rfl ?_
        obtain ⟨μ13, hM14, h⟩ := h
        refine Ev_callV [] mlX10_399 rfl rfl (Nat.le_of_ble_eq_true rfl) dX10_order_124 hM14 ?_
        refine Ev_iconst 1 dX10_order_127 (by decide) ?_
        obtain ⟨rfl, rfl⟩ := h
        exact R_i rfl dX10_order_128 rfl
      · have h := h.2 q
        refine Ev_aload_n dX10_order_34 rfl ?_
        refine Ev_getF 11 92 33 flX10_116 rfl dX10_order_35 ?_
        refine Ev_bipush 56 dX10_order_38 (by decide) ?_
        refine Ev_iload_n dX10_order_40 rfl ?_
        refine Ev_iadd dX10_order_41 ?_
        obtain ⟨g, h⟩ := h
        refine Ev_iald g dX10_order_42 ?_
        refine Ev_iload_n dX10_order_43 rfl ?_
        refine Ev_icmp_ne 77 dX10_order_44 (by decide) (fun q => ?_) (fun q => ?_)
        · have h := h.1 q
          refine Ev_aload_n dX10_order_77 rfl ?_
          obtain ⟨μ15, hM16, h⟩ := h
          refine Ev_callV [] mlX10_381 rfl rfl (Nat.le_of_ble_eq_true rfl) dX10_order_78 hM16 ?_
          refine Ev_aload_n dX10_order_81 rfl ?_
          refine Ev_getF 11 92 34 flX10_119 rfl dX10_order_82 ?_
          refine Ev_bipush 52 dX10_order_85 (by decide) ?_
          refine Ev_iload_n dX10_order_87 rfl ?_
          refine Ev_iadd dX10_order_88 ?_
          refine Ev_iload_n dX10_order_89 rfl ?_
          obtain ⟨g, h⟩ := h
          refine Ev_iast g dX10_order_90 ?_
          have h := h _ rfl
          refine Ev_aload_n dX10_order_91 rfl ?_
          refine Ev_getF 11 92 34 flX10_119 rfl dX10_order_92 ?_
          refine Ev_bipush 56 dX10_order_95 (by decide) ?_
          refine Ev_iload_n dX10_order_97 rfl ?_
          refine Ev_iadd dX10_order_98 ?_
          refine Ev_iload_n dX10_order_99 rfl ?_
          obtain ⟨g, h⟩ := h
          refine Ev_iast g dX10_order_100 ?_
          have h := h _ rfl
          refine Ev_aload_n dX10_order_101 rfl ?_
          refine Ev_getF 11 92 34 flX10_119 rfl dX10_order_102 ?_
          refine Ev_bipush 60 dX10_order_105 (by decide) ?_
          refine Ev_iload_n dX10_order_107 rfl ?_
          refine Ev_iadd dX10_order_108 ?_
          refine Ev_iload dX10_order_109 rfl ?_
          obtain ⟨g, h⟩ := h
          refine Ev_iast g dX10_order_111 ?_
          have h := h _ rfl
          refine Ev_aload_n dX10_order_112 rfl ?_
          refine Ev_getF 11 92 34 flX10_119 rfl dX10_order_113 ?_
          refine Ev_bipush 64 dX10_order_116 (by decide) ?_
          refine Ev_iload_n dX10_order_118 rfl ?_
          refine Ev_iadd dX10_order_119 ?_
          refine Ev_iload dX10_order_120 rfl ?_
          obtain ⟨g, h⟩ := h
          refine Ev_iast g dX10_order_122 ?_
          have h := h _ rfl
          refine Ev_aload_n dX10_order_123 rfl ?_
          obtain ⟨μ21, hM22, h⟩ := h
          refine Ev_callV [] mlX10_399 rfl rfl (Nat.le_of_ble_eq_true rfl) dX10_order_124 hM22 ?_
          refine Ev_iconst 1 dX10_order_127 (by decide) ?_
          obtain ⟨rfl, rfl⟩ := h
          exact R_i rfl dX10_order_128 rfl
        · have h := h.2 q
          refine Ev_aload_n dX10_order_47 rfl ?_
          refine Ev_getF 11 92 33 flX10_116 rfl dX10_order_48 ?_
          refine Ev_bipush 60 dX10_order_51 (by decide) ?_
          refine Ev_iload_n dX10_order_53 rfl ?_
          refine Ev_iadd dX10_order_54 ?_
          obtain ⟨g, h⟩ := h
          refine Ev_iald g dX10_order_55 ?_
          refine Ev_iload dX10_order_56 rfl ?_
          refine Ev_icmp_ne 77 dX10_order_58 (by decide) (fun q => ?_) (fun q => ?_)
          · have h := h.1 q
            refine Ev_aload_n dX10_order_77 rfl ?_
            obtain ⟨μ23, hM24, h⟩ := h
            refine Ev_callV [] mlX10_381 rfl rfl (Nat.le_of_ble_eq_true rfl) dX10_order_78 hM24 ?_
            refine Ev_aload_n dX10_order_81 rfl ?_
            refine Ev_getF 11 92 34 flX10_119 rfl dX10_order_82 ?_
            refine Ev_bipush 52 dX10_order_85 (by decide) ?_
            refine Ev_iload_n dX10_order_87 rfl ?_
            refine Ev_iadd dX10_order_88 ?_
            refine Ev_iload_n dX10_order_89 rfl ?_
            obtain ⟨g, h⟩ := h
            refine Ev_iast g dX10_order_90 ?_
            have h := h _ rfl
            refine Ev_aload_n dX10_order_91 rfl ?_
            refine Ev_getF 11 92 34 flX10_119 rfl dX10_order_92 ?_
            refine Ev_bipush 56 dX10_order_95 (by decide) ?_
            refine Ev_iload_n dX10_order_97 rfl ?_
            refine Ev_iadd dX10_order_98 ?_
            refine Ev_iload_n dX10_order_99 rfl ?_
            obtain ⟨g, h⟩ := h
            refine Ev_iast g dX10_order_100 ?_
            have h := h _ rfl
            refine Ev_aload_n dX10_order_101 rfl ?_
            refine Ev_getF 11 92 34 flX10_119 rfl dX10_order_102 ?_
            refine Ev_bipush 60 dX10_order_105 (by decide) ?_
            refine Ev_iload_n dX10_order_107 rfl ?_
            refine Ev_iadd dX10_order_108 ?_
            refine Ev_iload dX10_order_109 rfl ?_
            obtain ⟨g, h⟩ := h
            refine Ev_iast g dX10_order_111 ?_
            have h := h _ rfl
            refine Ev_aload_n dX10_order_112 rfl ?_
            refine Ev_getF 11 92 34 flX10_119 rfl dX10_order_113 ?_
            refine Ev_bipush 64 dX10_order_116 (by decide) ?_
            refine Ev_iload_n dX10_order_118 rfl ?_
            refine Ev_iadd dX10_order_119 ?_
            refine Ev_iload dX10_order_120 rfl ?_
            obtain ⟨g, h⟩ := h
            refine Ev_iast g dX10_order_122 ?_
            have h := h _ rfl
            refine Ev_aload_n dX10_order_123 rfl ?_
            obtain ⟨μ29, hM30, h⟩ := h
            refine Ev_callV [] mlX10_399 rfl rfl (Nat.le_of_ble_eq_true rfl) dX10_order_124 hM30 ?_
            refine Ev_iconst 1 dX10_order_127 (by decide) ?_
            obtain ⟨rfl, rfl⟩ := h
            exact R_i rfl dX10_order_128 rfl
          · have h := h.2 q
            refine Ev_aload_n dX10_order_61 rfl ?_
            refine Ev_getF 11 92 33 flX10_116 rfl dX10_order_62 ?_
            refine Ev_bipush 64 dX10_order_65 (by decide) ?_
            refine Ev_iload_n dX10_order_67 rfl ?_
            refine Ev_iadd dX10_order_68 ?_
            obtain ⟨g, h⟩ := h
            refine Ev_iald g dX10_order_69 ?_
            refine Ev_iload dX10_order_70 rfl ?_
            refine Ev_icmp_ne 77 dX10_order_72 (by decide) (fun q => ?_) (fun q => ?_)
            · have h := h.1 q
              refine Ev_aload_n dX10_order_77 rfl ?_
              obtain ⟨μ31, hM32, h⟩ := h
              refine Ev_callV [] mlX10_381 rfl rfl (Nat.le_of_ble_eq_true rfl) dX10_order_78 hM32 ?_
              refine Ev_aload_n dX10_order_81 rfl ?_
              refine Ev_getF 11 92 34 flX10_119 rfl dX10_order_82 ?_
              refine Ev_bipush 52 dX10_order_85 (by decide) ?_
              refine Ev_iload_n dX10_order_87 rfl ?_
              refine Ev_iadd dX10_order_88 ?_
              refine Ev_iload_n dX10_order_89 rfl ?_
              obtain ⟨g, h⟩ := h
              refine Ev_iast g dX10_order_90 ?_
              have h := h _ rfl
              refine Ev_aload_n dX10_order_91 rfl ?_
              refine Ev_getF 11 92 34 flX10_119 rfl dX10_order_92 ?_
              refine Ev_bipush 56 dX10_order_95 (by decide) ?_
              refine Ev_iload_n dX10_order_97 rfl ?_
              refine Ev_iadd dX10_order_98 ?_
              refine Ev_iload_n dX10_order_99 rfl ?_
              obtain ⟨g, h⟩ := h
              refine Ev_iast g dX10_order_100 ?_
              have h := h _ rfl
              refine Ev_aload_n dX10_order_101 rfl ?_
              refine Ev_getF 11 92 34 flX10_119 rfl dX10_order_102 ?_
              refine Ev_bipush 60 dX10_order_105 (by decide) ?_
              refine Ev_iload_n dX10_order_107 rfl ?_
              refine Ev_iadd dX10_order_108 ?_
              refine Ev_iload dX10_order_109 rfl ?_
              obtain ⟨g, h⟩ := h
              refine Ev_iast g dX10_order_111 ?_
              have h := h _ rfl
              refine Ev_aload_n dX10_order_112 rfl ?_
              refine Ev_getF 11 92 34 flX10_119 rfl dX10_order_113 ?_
              refine Ev_bipush 64 dX10_order_116 (by decide) ?_
              refine Ev_iload_n dX10_order_118 rfl ?_
              refine Ev_iadd dX10_order_119 ?_
              refine Ev_iload dX10_order_120 rfl ?_
              obtain ⟨g, h⟩ := h
              refine Ev_iast g dX10_order_122 ?_
              have h := h _ rfl
              refine Ev_aload_n dX10_order_123 rfl ?_
              obtain ⟨μ37, hM38, h⟩ := h
              refine Ev_callV [] mlX10_399 rfl rfl (Nat.le_of_ble_eq_true rfl) dX10_order_124 hM38 ?_
              refine Ev_iconst 1 dX10_order_127 (by decide) ?_
              obtain ⟨rfl, rfl⟩ := h
              exact R_i rfl dX10_order_128 rfl
            · have h := h.2 q
              refine Ev_iconst 0 dX10_order_75 (by decide) ?_
              obtain ⟨rfl, rfl⟩ := h
              exact R_i rfl dX10_order_76 rfl
set_option maxHeartbeats 4000000 in
set_option maxRecDepth 100000 in
theorem X10_place_ok {d : Nat}  {μ μ' : Mem} {x : Int32} (h : (x = μ.1 0 17 ∧ μ' = μ)) : X10_place d μ x μ' := by
  refine Me_of [some (vr 10 0 0)] rfl (Nat.le_of_ble_eq_true rfl) (by decide) ?_
  refine Ev_aload_n dX10_place_0 rfl ?_
  refine Ev_getI flX10_37 rfl dX10_place_1 ?_
  obtain ⟨rfl, rfl⟩ := h
  exact R_i rfl dX10_place_4 rfl
set_option maxHeartbeats 4000000 in
set_option maxRecDepth 100000 in
theorem X10_plain_ok {d : Nat} {x1 : Int32} {μ μ' : Mem} (h : vp_in x1 2 ∧ (∀ μ1 : Mem, μ1 = sI μ 9 x1.toNatClampNeg 0 → vp_in x1 2 ∧ (∀ μ2 : Mem, μ2 = sI μ1 10 x1.toNatClampNeg 0 → vp_in x1 2 ∧ (∀ μ3 : Mem, μ3 = sI μ2 12 x1.toNatClampNeg 0 → vp_in x1 2 ∧ (∀ μ4 : Mem, μ4 = sI μ3 15 x1.toNatClampNeg 0 → vp_in x1 2 ∧ (∀ μ5 : Mem, μ5 = sI μ4 18 x1.toNatClampNeg 100 → vp_in x1 2 ∧ (∀ μ6 : Mem, μ6 = sI μ5 19 x1.toNatClampNeg 0 → vp_in x1 2 ∧ (∀ μ7 : Mem, μ7 = sI μ6 20 x1.toNatClampNeg 0 → X10_plain_at52 d x1 0 μ7 μ')))))))) : X10_plain d x1 μ μ' := by
  refine Me_of [some (vr 10 0 0), some (vi x1), none] rfl (Nat.le_of_ble_eq_true rfl) (by decide) ?_
  refine Ev_aload_n dX10_plain_0 rfl ?_
  refine Ev_getF 11 2 9 flX10_43 rfl dX10_plain_1 ?_
  refine Ev_iload_n dX10_plain_4 rfl ?_
  refine Ev_iconst 0 dX10_plain_5 (by decide) ?_
  obtain ⟨g, h⟩ := h
  refine Ev_iast g dX10_plain_6 ?_
  have h := h _ rfl
  refine Ev_aload_n dX10_plain_7 rfl ?_
  refine Ev_getF 11 2 10 flX10_46 rfl dX10_plain_8 ?_
  refine Ev_iload_n dX10_plain_11 rfl ?_
  refine Ev_iconst 0 dX10_plain_12 (by decide) ?_
  obtain ⟨g, h⟩ := h
  refine Ev_iast g dX10_plain_13 ?_
  have h := h _ rfl
  refine Ev_aload_n dX10_plain_14 rfl ?_
  refine Ev_getF 11 2 12 flX10_52 rfl dX10_plain_15 ?_
  refine Ev_iload_n dX10_plain_18 rfl ?_
  refine Ev_iconst 0 dX10_plain_19 (by decide) ?_
  obtain ⟨g, h⟩ := h
  refine Ev_iast g dX10_plain_20 ?_
  have h := h _ rfl
  refine Ev_aload_n dX10_plain_21 rfl ?_
  refine Ev_getF 11 2 15 flX10_61 rfl dX10_plain_22 ?_
  refine Ev_iload_n dX10_plain_25 rfl ?_
  refine Ev_iconst 0 dX10_plain_26 (by decide) ?_
  obtain ⟨g, h⟩ := h
  refine Ev_iast g dX10_plain_27 ?_
  have h := h _ rfl
  refine Ev_aload_n dX10_plain_28 rfl ?_
  refine Ev_getF 11 2 18 flX10_70 rfl dX10_plain_29 ?_
  refine Ev_iload_n dX10_plain_32 rfl ?_
  refine Ev_bipush 100 dX10_plain_33 (by decide) ?_
  obtain ⟨g, h⟩ := h
  refine Ev_iast g dX10_plain_35 ?_
  have h := h _ rfl
  refine Ev_aload_n dX10_plain_36 rfl ?_
  refine Ev_getF 11 2 19 flX10_73 rfl dX10_plain_37 ?_
  refine Ev_iload_n dX10_plain_40 rfl ?_
  refine Ev_iconst 0 dX10_plain_41 (by decide) ?_
  obtain ⟨g, h⟩ := h
  refine Ev_iast g dX10_plain_42 ?_
  have h := h _ rfl
  refine Ev_aload_n dX10_plain_43 rfl ?_
  refine Ev_getF 11 2 20 flX10_76 rfl dX10_plain_44 ?_
  refine Ev_iload_n dX10_plain_47 rfl ?_
  refine Ev_iconst 0 dX10_plain_48 (by decide) ?_
  obtain ⟨g, h⟩ := h
  refine Ev_iast g dX10_plain_49 ?_
  have h := h _ rfl
  refine Ev_iconst 0 dX10_plain_50 (by decide) ?_
  refine Ev_istore_n dX10_plain_51 (Nat.le_of_ble_eq_true rfl) (okp_of rfl) ?_
  exact h
set_option maxHeartbeats 4000000 in
set_option maxRecDepth 100000 in
theorem X10_plain_at52_ok {d : Nat} {x1 : Int32} {x2 : Int32} {μ μ' : Mem} (h : ((3 ≤ x2 → μ' = μ) ∧ (¬ 3 ≤ x2 → vp_in ((3 * x1) + x2) 6 ∧ (∀ μ1 : Mem, μ1 = sI μ 21 (((3 * x1) + x2).toNatClampNeg) 0 → vp_in ((3 * x1) + x2) 6 ∧ (∀ μ2 : Mem, μ2 = sI μ1 22 (((3 * x1) + x2).toNatClampNeg) 0 → X10_plain_at52 d x1 (x2 + 1) μ2 μ'))))) : X10_plain_at52 d x1 x2 μ μ' := by
  refine Ev_iload_n dX10_plain_52 rfl ?_
  refine Ev_iconst 3 dX10_plain_53 (by decide) ?_
  refine Ev_icmp_ge 85 dX10_plain_54 (by decide) (fun q => ?_) (fun q => ?_)
  · have h := h.1 q
    subst h
    exact R_v rfl dX10_plain_85
  · have h := h.2 q
    refine Ev_aload_n dX10_plain_57 rfl ?_
    refine Ev_getF 11 6 21 flX10_79 rfl dX10_plain_58 ?_
    refine Ev_iconst 3 dX10_plain_61 (by decide) ?_
    refine Ev_iload_n dX10_plain_62 rfl ?_
    refine Ev_imul dX10_plain_63 ?_
    refine Ev_iload_n dX10_plain_64 rfl ?_
    refine Ev_iadd dX10_plain_65 ?_
    refine Ev_iconst 0 dX10_plain_66 (by decide) ?_
    obtain ⟨g, h⟩ := h
    refine Ev_iast g dX10_plain_67 ?_
    have h := h _ rfl
    refine Ev_aload_n dX10_plain_68 rfl ?_
    refine Ev_getF 11 6 22 flX10_82 rfl dX10_plain_69 ?_
    refine Ev_iconst 3 dX10_plain_72 (by decide) ?_
    refine Ev_iload_n dX10_plain_73 rfl ?_
    refine Ev_imul dX10_plain_74 ?_
    refine Ev_iload_n dX10_plain_75 rfl ?_
    refine Ev_iadd dX10_plain_76 ?_
    refine Ev_iconst 0 dX10_plain_77 (by decide) ?_
    obtain ⟨g, h⟩ := h
    refine Ev_iast g dX10_plain_78 ?_
    have h := h _ rfl
    refine Ev_iinc (x2 + 1) dX10_plain_79 rfl rfl (okp_of rfl) ?_
    refine Ev_goto 52 dX10_plain_82 (by decide) ?_
    exact h
set_option maxHeartbeats 4000000 in
set_option maxRecDepth 100000 in
theorem X10_put_ok {d : Nat} {x1 : Int32} {μ μ' : Mem} (h : X10_put_at3 d x1 24 μ μ') : X10_put d x1 μ μ' := by
  refine Me_of [some (vr 10 0 0), some (vi x1), none] rfl (Nat.le_of_ble_eq_true rfl) (by decide) ?_
  refine Ev_bipush 24 dX10_put_0 (by decide) ?_
  refine Ev_istore_n dX10_put_2 (Nat.le_of_ble_eq_true rfl) (okp_of rfl) ?_
  exact h
set_option maxHeartbeats 4000000 in
set_option maxRecDepth 100000 in
theorem X10_put_at3_ok {d : Nat} {x1 : Int32} {x2 : Int32} {μ μ' : Mem} (h : ((x2 < 0 → μ' = μ) ∧ (¬ x2 < 0 → vp_in (μ.1 0 2) 2000 ∧ (∀ μ1 : Mem, μ1 = sI μ 1 ((μ.1 0 2).toNatClampNeg) (vp_nar .byte ((x1 >>> (x2 &&& 31)).toInt8.toInt32)) → (∀ μ2 : Mem, μ2 = sI μ1 0 2 ((μ1.1 0 2) + 1) → X10_put_at3 d x1 (x2 + (-8)) μ2 μ'))))) : X10_put_at3 d x1 x2 μ μ' := by
  refine Ev_iload_n dX10_put_3 rfl ?_
  refine Ev_if_lt 36 dX10_put_4 (by decide) (fun q => ?_) (fun q => ?_)
  · have h := h.1 q
    subst h
    exact R_v rfl dX10_put_36
  · have h := h.2 q
    refine Ev_aload_n dX10_put_7 rfl ?_
    refine Ev_getF 12 2000 1 flX10_13 rfl dX10_put_8 ?_
    refine Ev_aload_n dX10_put_11 rfl ?_
    refine Ev_getI flX10_172 rfl dX10_put_12 ?_
    refine Ev_iload_n dX10_put_15 rfl ?_
    refine Ev_iload_n dX10_put_16 rfl ?_
    refine Ev_ishr dX10_put_17 ?_
    refine Ev_i2b dX10_put_18 ?_
    obtain ⟨g, h⟩ := h
    refine Ev_bast g dX10_put_19 ?_
    have h := h _ rfl
    refine Ev_aload_n dX10_put_20 rfl ?_
    refine Ev_dup dX10_put_21 (fun _ z => by cases z) ?_
    refine Ev_getI flX10_172 rfl dX10_put_22 ?_
    refine Ev_iconst 1 dX10_put_25 (by decide) ?_
    refine Ev_iadd dX10_put_26 ?_
    refine Ev_putI .int flX10_172 fpX10_2 rfl rfl rfl dX10_put_27 ?_
    have h := h _ rfl
    refine Ev_iinc (x2 + (-8)) dX10_put_30 rfl rfl (okp_of rfl) ?_
    refine Ev_goto 3 dX10_put_33 (by decide) ?_
    exact h
set_option maxHeartbeats 4000000 in
set_option maxRecDepth 100000 in
theorem X10_read_ok {d : Nat}  {μ μ' : Mem} {x : Int32} (h : (∀ μ1 : Mem, μ1 = sI μ 0 4 (μ.1 0 2) → X10_read_at10 d 0 μ1 x μ')) : X10_read (d + 1) μ x μ' := by
  refine Me_of [some (vr 10 0 0), none] rfl (Nat.le_of_ble_eq_true rfl) (by decide) ?_
  refine Ev_aload_n dX10_read_0 rfl ?_
  refine Ev_aload_n dX10_read_1 rfl ?_
  refine Ev_getI flX10_172 rfl dX10_read_2 ?_
  refine Ev_putI .int flX10_178 fpX10_4 rfl rfl rfl dX10_read_5 ?_
  have h := h _ rfl
  refine Ev_iconst 0 dX10_read_8 (by decide) ?_
  refine Ev_istore_n dX10_read_9 (Nat.le_of_ble_eq_true rfl) (okp_of rfl) ?_
  exact h
set_option maxHeartbeats 4000000 in
set_option maxRecDepth 100000 in
theorem X10_read_at10_ok {d : Nat} {x1 : Int32} {μ μ' : Mem} {x : Int32} (h : (((μ.1 0 4) ≤ x1 → (∀ μ1 : Mem, μ1 = sI μ 0 2 0 → (∃ (μ2 : Mem), X10_cutsUp d μ1 μ2 ∧ (∀ μ4 : Mem, μ4 = sI μ2 0 11 0 → (∀ μ5 : Mem, μ5 = sI μ4 0 12 0 → (∀ μ6 : Mem, μ6 = sI μ5 0 13 0 → (∀ μ7 : Mem, μ7 = sI μ6 0 15 0 → (∀ μ8 : Mem, μ8 = sI μ7 0 19 (1 - (μ7.1 0 18)) → (∀ μ9 : Mem, μ9 = sI μ8 0 20 0 → (∃ (μ10 : Mem), X10_plain d (μ9.1 0 19) μ9 μ10 ∧ (∀ μ12 : Mem, μ12 = sI μ10 0 36 (130 * (μ10.1 0 19)) → (∀ μ13 : Mem, μ13 = sI μ12 0 42 (420 * (μ12.1 0 19)) → X10_read_at112 d μ13 x μ')))))))))))) ∧ (¬ (μ.1 0 4) ≤ x1 → vp_in x1 2000 ∧ vp_in x1 2000 ∧ (∀ μ14 : Mem, μ14 = sI μ 2 x1.toNatClampNeg (vp_nar .byte (μ.1 1 x1.toNatClampNeg)) → X10_read_at10 d (x1 + 1) μ14 x μ')))) : X10_read_at10 d x1 μ x μ' := by
  refine Ev_iload_n dX10_read_10 rfl ?_
  refine Ev_aload_n dX10_read_11 rfl ?_
  refine Ev_getI flX10_178 rfl dX10_read_12 ?_
  refine Ev_icmp_ge 36 dX10_read_15 (by decide) (fun q => ?_) (fun q => ?_)
  · have h := h.1 q
    refine Ev_aload_n dX10_read_36 rfl ?_
    refine Ev_iconst 0 dX10_read_37 (by decide) ?_
    refine Ev_putI .int flX10_172 fpX10_2 rfl rfl rfl dX10_read_38 ?_
    have h := h _ rfl
    refine Ev_aload_n dX10_read_41 rfl ?_
    obtain ⟨μ2, hM3, h⟩ := h
    refine Ev_callV [] mlX10_233 rfl rfl (Nat.le_of_ble_eq_true rfl) dX10_read_42 hM3 ?_
    refine Ev_aload_n dX10_read_45 rfl ?_
    refine Ev_iconst 0 dX10_read_46 (by decide) ?_
    refine Ev_putI .int flX10_212 fpX10_11 rfl rfl rfl dX10_read_47 ?_
    have h := h _ rfl
    refine Ev_aload_n dX10_read_50 rfl ?_
    refine Ev_iconst 0 dX10_read_51 (by decide) ?_
    refine Ev_putI .int flX10_236 fpX10_12 rfl rfl rfl dX10_read_52 ?_
    have h := h _ rfl
    refine Ev_aload_n dX10_read_55 rfl ?_
    refine Ev_iconst 0 dX10_read_56 (by decide) ?_
    refine Ev_putI .int flX10_209 fpX10_13 rfl rfl rfl dX10_read_57 ?_
    have h := h _ rfl
    refine Ev_aload_n dX10_read_60 rfl ?_
    refine Ev_iconst 0 dX10_read_61 (by decide) ?_
    refine Ev_putI .int flX10_218 fpX10_15 rfl rfl rfl dX10_read_62 ?_
    have h := h _ rfl
    refine Ev_aload_n dX10_read_65 rfl ?_
    refine Ev_iconst 1 dX10_read_66 (by decide) ?_
    refine Ev_aload_n dX10_read_67 rfl ?_
    refine Ev_getI flX10_239 rfl dX10_read_68 ?_
    refine Ev_isub dX10_read_71 ?_
    refine Ev_putI .int flX10_242 fpX10_19 rfl rfl rfl dX10_read_72 ?_
    have h := h _ rfl
    refine Ev_aload_n dX10_read_75 rfl ?_
    refine Ev_iconst 0 dX10_read_76 (by decide) ?_
    refine Ev_putI .int flX10_245 fpX10_20 rfl rfl rfl dX10_read_77 ?_
    have h := h _ rfl
    refine Ev_aload_n dX10_read_80 rfl ?_
    refine Ev_aload_n dX10_read_81 rfl ?_
    refine Ev_getI flX10_242 rfl dX10_read_82 ?_
    obtain ⟨μ10, hM11, h⟩ := h
    refine Ev_callV [_] mlX10_158 rfl rfl (Nat.le_of_ble_eq_true rfl) dX10_read_85 hM11 ?_
    refine Ev_aload_n dX10_read_88 rfl ?_
    refine Ev_sipush 130 dX10_read_89 (by decide) ?_
    refine Ev_aload_n dX10_read_92 rfl ?_
    refine Ev_getI flX10_242 rfl dX10_read_93 ?_
    refine Ev_imul dX10_read_96 ?_
    refine Ev_putI .int flX10_248 fpX10_36 rfl rfl rfl dX10_read_97 ?_
    have h := h _ rfl
    refine Ev_aload_n dX10_read_100 rfl ?_
    refine Ev_sipush 420 dX10_read_101 (by decide) ?_
    refine Ev_aload_n dX10_read_104 rfl ?_
    refine Ev_getI flX10_242 rfl dX10_read_105 ?_
    refine Ev_imul dX10_read_108 ?_
    refine Ev_putI .int flX10_251 fpX10_42 rfl rfl rfl dX10_read_109 ?_
    have h := h _ rfl
    refine Ev_weak ?_ h
    exact And.intro rfl (And.intro trivial (trivial))
  · have h := h.2 q
    refine Ev_aload_n dX10_read_18 rfl ?_
    refine Ev_getF 12 2000 2 flX10_17 rfl dX10_read_19 ?_
    refine Ev_iload_n dX10_read_22 rfl ?_
    refine Ev_aload_n dX10_read_23 rfl ?_
    refine Ev_getF 12 2000 1 flX10_13 rfl dX10_read_24 ?_
    refine Ev_iload_n dX10_read_27 rfl ?_
    obtain ⟨g, h⟩ := h
    refine Ev_bald g dX10_read_28 ?_
    obtain ⟨g, h⟩ := h
    refine Ev_bast g dX10_read_29 ?_
    have h := h _ rfl
    refine Ev_iinc (x1 + 1) dX10_read_30 rfl rfl (okp_of rfl) ?_
    refine Ev_goto 10 dX10_read_33 (by decide) ?_
    exact h
set_option maxHeartbeats 4000000 in
set_option maxRecDepth 100000 in
theorem X10_read_at112_ok {d : Nat}  {μ μ' : Mem} {x : Int32} (h : (((μ.1 0 13) ≠ 0 → (((μ.1 0 13) ≠ 0 → X10_read_at158 d μ x μ') ∧ ((μ.1 0 13) = 0 → (∃ (y3 : Int32) (μ1 : Mem), X10_areFields d μ y3 μ1 ∧ ((y3 ≠ 0 → X10_read_at158 d μ1 x μ') ∧ (y3 = 0 → (∃ (μ4 : Mem), X10_wrong d 6 (μ1.1 0 11) μ1 μ4 ∧ X10_read_at158 d μ4 x μ'))))))) ∧ ((μ.1 0 13) = 0 → (∃ (y8 : Int32) (μ6 : Mem), X10_is d 0 μ y8 μ6 ∧ ((y8 ≠ 0 → (((μ6.1 0 13) ≠ 0 → X10_read_at158 d μ6 x μ') ∧ ((μ6.1 0 13) = 0 → (∃ (y11 : Int32) (μ9 : Mem), X10_areFields d μ6 y11 μ9 ∧ ((y11 ≠ 0 → X10_read_at158 d μ9 x μ') ∧ (y11 = 0 → (∃ (μ12 : Mem), X10_wrong d 6 (μ9.1 0 11) μ9 μ12 ∧ X10_read_at158 d μ12 x μ'))))))) ∧ (y8 = 0 → (∃ (μ14 : Mem), X10_tellOne d μ6 μ14 ∧ X10_read_at112 d μ14 x μ'))))))) : X10_read_at112 d μ x μ' := by
  refine Ev_aload_n dX10_read_112 rfl ?_
  refine Ev_getI flX10_209 rfl dX10_read_113 ?_
  refine Ev_if_ne 134 dX10_read_116 (by decide) (fun q => ?_) (fun q => ?_)
  · have h := h.1 q
    refine Ev_aload_n dX10_read_134 rfl ?_
    refine Ev_getI flX10_209 rfl dX10_read_135 ?_
    refine Ev_if_ne 158 dX10_read_138 (by decide) (fun q => ?_) (fun q => ?_)
    · have h := h.1 q
      exact h
    · have h := h.2 q
      refine Ev_aload_n dX10_read_141 rfl ?_
      obtain ⟨y3, μ1, hM2, h⟩ := h
      refine Ev_callV [] mlX10_257 rfl rfl (Nat.le_of_ble_eq_true rfl) dX10_read_142 hM2 ?_
      refine Ev_if_ne 158 dX10_read_145 (by decide) (fun q => ?_) (fun q => ?_)
      · have h := h.1 q
        exact h
      · have h := h.2 q
        refine Ev_aload_n dX10_read_148 rfl ?_
        refine Ev_bipush 6 dX10_read_149 (by decide) ?_
        refine Ev_aload_n dX10_read_151 rfl ?_
        refine Ev_getI flX10_212 rfl dX10_read_152 ?_
        obtain ⟨μ4, hM5, h⟩ := h
        refine Ev_callV [_, _] mlX10_261 rfl rfl (Nat.le_of_ble_eq_true rfl) dX10_read_155 hM5 ?_
        exact h
  · have h := h.2 q
    refine Ev_aload_n dX10_read_119 rfl ?_
    refine Ev_iconst 0 dX10_read_120 (by decide) ?_
    obtain ⟨y8, μ6, hM7, h⟩ := h
    refine Ev_callV [_] mlX10_227 rfl rfl (Nat.le_of_ble_eq_true rfl) dX10_read_121 hM7 ?_
    refine Ev_if_ne 134 dX10_read_124 (by decide) (fun q => ?_) (fun q => ?_)
    · have h := h.1 q
      refine Ev_aload_n dX10_read_134 rfl ?_
      refine Ev_getI flX10_209 rfl dX10_read_135 ?_
      refine Ev_if_ne 158 dX10_read_138 (by decide) (fun q => ?_) (fun q => ?_)
      · have h := h.1 q
        exact h
      · have h := h.2 q
        refine Ev_aload_n dX10_read_141 rfl ?_
        obtain ⟨y11, μ9, hM10, h⟩ := h
        refine Ev_callV [] mlX10_257 rfl rfl (Nat.le_of_ble_eq_true rfl) dX10_read_142 hM10 ?_
        refine Ev_if_ne 158 dX10_read_145 (by decide) (fun q => ?_) (fun q => ?_)
        · have h := h.1 q
          exact h
        · have h := h.2 q
          refine Ev_aload_n dX10_read_148 rfl ?_
          refine Ev_bipush 6 dX10_read_149 (by decide) ?_
          refine Ev_aload_n dX10_read_151 rfl ?_
          refine Ev_getI flX10_212 rfl dX10_read_152 ?_
          obtain ⟨μ12, hM13, h⟩ := h
          refine Ev_callV [_, _] mlX10_261 rfl rfl (Nat.le_of_ble_eq_true rfl) dX10_read_155 hM13 ?_
          exact h
    · have h := h.2 q
      refine Ev_aload_n dX10_read_127 rfl ?_
      obtain ⟨μ14, hM15, h⟩ := h
      refine Ev_callV [] mlX10_254 rfl rfl (Nat.le_of_ble_eq_true rfl) dX10_read_128 hM15 ?_
      refine Ev_goto 112 dX10_read_131 (by decide) ?_
      exact h
set_option maxHeartbeats 4000000 in
set_option maxRecDepth 100000 in
theorem X10_read_at158_ok {d : Nat}  {μ μ' : Mem} {x : Int32} (h : (((μ.1 0 13) ≤ 0 → (((μ.1 0 15) ≤ 0 → (∀ μ1 : Mem, μ1 = sI μ 0 17 (-1) → (((μ1.1 0 13) ≤ 0 → (((μ1.1 0 15) ≤ 0 → (∀ μ2 : Mem, μ2 = sI μ1 0 18 (μ1.1 0 19) → (∃ (μ3 : Mem), X10_begins d μ2 μ3 ∧ (∃ (μ5 : Mem), X10_keepsRow d μ3 μ5 ∧ (∀ μ7 : Mem, μ7 = sI μ5 0 53 0 → (∀ μ8 : Mem, μ8 = sI μ7 0 65 0 → X10_read_at243 d 0 μ8 x μ')))))) ∧ (¬ (μ1.1 0 15) ≤ 0 → (x = μ1.1 0 15 ∧ μ' = μ1)))) ∧ (¬ (μ1.1 0 13) ≤ 0 → (x = μ1.1 0 13 ∧ μ' = μ1))))) ∧ (¬ (μ.1 0 15) ≤ 0 → (∀ μ9 : Mem, μ9 = sI μ 0 17 (μ.1 0 16) → (((μ9.1 0 13) ≤ 0 → (((μ9.1 0 15) ≤ 0 → (∀ μ10 : Mem, μ10 = sI μ9 0 18 (μ9.1 0 19) → (∃ (μ11 : Mem), X10_begins d μ10 μ11 ∧ (∃ (μ13 : Mem), X10_keepsRow d μ11 μ13 ∧ (∀ μ15 : Mem, μ15 = sI μ13 0 53 0 → (∀ μ16 : Mem, μ16 = sI μ15 0 65 0 → X10_read_at243 d 0 μ16 x μ')))))) ∧ (¬ (μ9.1 0 15) ≤ 0 → (x = μ9.1 0 15 ∧ μ' = μ9)))) ∧ (¬ (μ9.1 0 13) ≤ 0 → (x = μ9.1 0 13 ∧ μ' = μ9))))))) ∧ (¬ (μ.1 0 13) ≤ 0 → (∀ μ17 : Mem, μ17 = sI μ 0 17 (μ.1 0 14) → (((μ17.1 0 13) ≤ 0 → (((μ17.1 0 15) ≤ 0 → (∀ μ18 : Mem, μ18 = sI μ17 0 18 (μ17.1 0 19) → (∃ (μ19 : Mem), X10_begins d μ18 μ19 ∧ (∃ (μ21 : Mem), X10_keepsRow d μ19 μ21 ∧ (∀ μ23 : Mem, μ23 = sI μ21 0 53 0 → (∀ μ24 : Mem, μ24 = sI μ23 0 65 0 → X10_read_at243 d 0 μ24 x μ')))))) ∧ (¬ (μ17.1 0 15) ≤ 0 → (x = μ17.1 0 15 ∧ μ' = μ17)))) ∧ (¬ (μ17.1 0 13) ≤ 0 → (x = μ17.1 0 13 ∧ μ' = μ17))))))) : X10_read_at158 d μ x μ' := by
  refine Ev_aload_n dX10_read_158 rfl ?_
  refine Ev_aload_n dX10_read_159 rfl ?_
  refine Ev_getI flX10_209 rfl dX10_read_160 ?_
  refine Ev_if_le 173 dX10_read_163 (by decide) (fun q => ?_) (fun q => ?_)
  · have h := h.1 q
    refine Ev_aload_n dX10_read_173 rfl ?_
    refine Ev_getI flX10_218 rfl dX10_read_174 ?_
    refine Ev_if_le 187 dX10_read_177 (by decide) (fun q => ?_) (fun q => ?_)
    · have h := h.1 q
      refine Ev_iconst (-1) dX10_read_187 (by decide) ?_
      refine Ev_putI .int flX10_37 fpX10_17 rfl rfl rfl dX10_read_188 ?_
      have h := h _ rfl
      refine Ev_aload_n dX10_read_191 rfl ?_
      refine Ev_getI flX10_209 rfl dX10_read_192 ?_
      refine Ev_if_le 203 dX10_read_195 (by decide) (fun q => ?_) (fun q => ?_)
      · have h := h.1 q
        refine Ev_aload_n dX10_read_203 rfl ?_
        refine Ev_getI flX10_218 rfl dX10_read_204 ?_
        refine Ev_if_le 215 dX10_read_207 (by decide) (fun q => ?_) (fun q => ?_)
        · have h := h.1 q
          refine Ev_aload_n dX10_read_215 rfl ?_
          refine Ev_aload_n dX10_read_216 rfl ?_
          refine Ev_getI flX10_242 rfl dX10_read_217 ?_
          refine Ev_putI .int flX10_239 fpX10_18 rfl rfl rfl dX10_read_220 ?_
          have h := h _ rfl
          refine Ev_aload_n dX10_read_223 rfl ?_
          obtain ⟨μ3, hM4, h⟩ := h
          refine Ev_callV [] mlX10_166 rfl rfl (Nat.le_of_ble_eq_true rfl) dX10_read_224 hM4 ?_
          refine Ev_aload_n dX10_read_227 rfl ?_
          obtain ⟨μ5, hM6, h⟩ := h
          refine Ev_callV [] mlX10_169 rfl rfl (Nat.le_of_ble_eq_true rfl) dX10_read_228 hM6 ?_
          refine Ev_aload_n dX10_read_231 rfl ?_
          refine Ev_iconst 0 dX10_read_232 (by decide) ?_
          refine Ev_putI .int flX10_265 fpX10_53 rfl rfl rfl dX10_read_233 ?_
          have h := h _ rfl
          refine Ev_aload_n dX10_read_236 rfl ?_
          refine Ev_iconst 0 dX10_read_237 (by decide) ?_
          refine Ev_putI .int flX10_268 fpX10_65 rfl rfl rfl dX10_read_238 ?_
          have h := h _ rfl
          refine Ev_iconst 0 dX10_read_241 (by decide) ?_
          refine Ev_istore_n dX10_read_242 (Nat.le_of_ble_eq_true rfl) (okp_of rfl) ?_
          exact h
        · have h := h.2 q
          refine Ev_aload_n dX10_read_210 rfl ?_
          refine Ev_getI flX10_218 rfl dX10_read_211 ?_
          obtain ⟨rfl, rfl⟩ := h
          exact R_i rfl dX10_read_214 rfl
      · have h := h.2 q
        refine Ev_aload_n dX10_read_198 rfl ?_
        refine Ev_getI flX10_209 rfl dX10_read_199 ?_
        obtain ⟨rfl, rfl⟩ := h
        exact R_i rfl dX10_read_202 rfl
    · have h := h.2 q
      refine Ev_aload_n dX10_read_180 rfl ?_
      refine Ev_getI flX10_221 rfl dX10_read_181 ?_
      refine Ev_goto 188 dX10_read_184 (by decide) ?_
      refine Ev_putI .int flX10_37 fpX10_17 rfl rfl rfl dX10_read_188 ?_
      have h := h _ rfl
      refine Ev_aload_n dX10_read_191 rfl ?_
      refine Ev_getI flX10_209 rfl dX10_read_192 ?_
      refine Ev_if_le 203 dX10_read_195 (by decide) (fun q => ?_) (fun q => ?_)
      · have h := h.1 q
        refine Ev_aload_n dX10_read_203 rfl ?_
        refine Ev_getI flX10_218 rfl dX10_read_204 ?_
        refine Ev_if_le 215 dX10_read_207 (by decide) (fun q => ?_) (fun q => ?_)
        · have h := h.1 q
          refine Ev_aload_n dX10_read_215 rfl ?_
          refine Ev_aload_n dX10_read_216 rfl ?_
          refine Ev_getI flX10_242 rfl dX10_read_217 ?_
          refine Ev_putI .int flX10_239 fpX10_18 rfl rfl rfl dX10_read_220 ?_
          have h := h _ rfl
          refine Ev_aload_n dX10_read_223 rfl ?_
          obtain ⟨μ11, hM12, h⟩ := h
          refine Ev_callV [] mlX10_166 rfl rfl (Nat.le_of_ble_eq_true rfl) dX10_read_224 hM12 ?_
          refine Ev_aload_n dX10_read_227 rfl ?_
          obtain ⟨μ13, hM14, h⟩ := h
          refine Ev_callV [] mlX10_169 rfl rfl (Nat.le_of_ble_eq_true rfl) dX10_read_228 hM14 ?_
          refine Ev_aload_n dX10_read_231 rfl ?_
          refine Ev_iconst 0 dX10_read_232 (by decide) ?_
          refine Ev_putI .int flX10_265 fpX10_53 rfl rfl rfl dX10_read_233 ?_
          have h := h _ rfl
          refine Ev_aload_n dX10_read_236 rfl ?_
          refine Ev_iconst 0 dX10_read_237 (by decide) ?_
          refine Ev_putI .int flX10_268 fpX10_65 rfl rfl rfl dX10_read_238 ?_
          have h := h _ rfl
          refine Ev_iconst 0 dX10_read_241 (by decide) ?_
          refine Ev_istore_n dX10_read_242 (Nat.le_of_ble_eq_true rfl) (okp_of rfl) ?_
          exact h
        · have h := h.2 q
          refine Ev_aload_n dX10_read_210 rfl ?_
          refine Ev_getI flX10_218 rfl dX10_read_211 ?_
          obtain ⟨rfl, rfl⟩ := h
          exact R_i rfl dX10_read_214 rfl
      · have h := h.2 q
        refine Ev_aload_n dX10_read_198 rfl ?_
        refine Ev_getI flX10_209 rfl dX10_read_199 ?_
        obtain ⟨rfl, rfl⟩ := h
        exact R_i rfl dX10_read_202 rfl
  · have h := h.2 q
    refine Ev_aload_n dX10_read_166 rfl ?_
    refine Ev_getI flX10_215 rfl dX10_read_167 ?_
    refine Ev_goto 188 dX10_read_170 (by decide) ?_
    refine Ev_putI .int flX10_37 fpX10_17 rfl rfl rfl dX10_read_188 ?_
    have h := h _ rfl
    refine Ev_aload_n dX10_read_191 rfl ?_
    refine Ev_getI flX10_209 rfl dX10_read_192 ?_
    refine Ev_if_le 203 dX10_read_195 (by decide) (fun q => ?_) (fun q => ?_)
    · have h := h.1 q
      refine Ev_aload_n dX10_read_203 rfl ?_
      refine Ev_getI flX10_218 rfl dX10_read_204 ?_
      refine Ev_if_le 215 dX10_read_207 (by decide) (fun q => ?_) (fun q => ?_)
      · have h := h.1 q
        refine Ev_aload_n dX10_read_215 rfl ?_
        refine Ev_aload_n dX10_read_216 rfl ?_
        refine Ev_getI flX10_242 rfl dX10_read_217 ?_
        refine Ev_putI .int flX10_239 fpX10_18 rfl rfl rfl dX10_read_220 ?_
        have h := h _ rfl
        refine Ev_aload_n dX10_read_223 rfl ?_
        obtain ⟨μ19, hM20, h⟩ := h
        refine Ev_callV [] mlX10_166 rfl rfl (Nat.le_of_ble_eq_true rfl) dX10_read_224 hM20 ?_
        refine Ev_aload_n dX10_read_227 rfl ?_
        obtain ⟨μ21, hM22, h⟩ := h
        refine Ev_callV [] mlX10_169 rfl rfl (Nat.le_of_ble_eq_true rfl) dX10_read_228 hM22 ?_
        refine Ev_aload_n dX10_read_231 rfl ?_
        refine Ev_iconst 0 dX10_read_232 (by decide) ?_
        refine Ev_putI .int flX10_265 fpX10_53 rfl rfl rfl dX10_read_233 ?_
        have h := h _ rfl
        refine Ev_aload_n dX10_read_236 rfl ?_
        refine Ev_iconst 0 dX10_read_237 (by decide) ?_
        refine Ev_putI .int flX10_268 fpX10_65 rfl rfl rfl dX10_read_238 ?_
        have h := h _ rfl
        refine Ev_iconst 0 dX10_read_241 (by decide) ?_
        refine Ev_istore_n dX10_read_242 (Nat.le_of_ble_eq_true rfl) (okp_of rfl) ?_
        exact h
      · have h := h.2 q
        refine Ev_aload_n dX10_read_210 rfl ?_
        refine Ev_getI flX10_218 rfl dX10_read_211 ?_
        obtain ⟨rfl, rfl⟩ := h
        exact R_i rfl dX10_read_214 rfl
    · have h := h.2 q
      refine Ev_aload_n dX10_read_198 rfl ?_
      refine Ev_getI flX10_209 rfl dX10_read_199 ?_
      obtain ⟨rfl, rfl⟩ := h
      exact R_i rfl dX10_read_202 rfl
set_option maxHeartbeats 4000000 in
set_option maxRecDepth 100000 in
theorem X10_read_at243_ok {d : Nat} {x1 : Int32} {μ μ' : Mem} {x : Int32} (h : ((3 ≤ x1 → (x = 0 ∧ μ' = μ)) ∧ (¬ 3 ≤ x1 → vp_in x1 3 ∧ (∀ μ1 : Mem, μ1 = sI μ 45 x1.toNatClampNeg (vp_nar .boolean 0) → X10_read_at243 d (x1 + 1) μ1 x μ')))) : X10_read_at243 d x1 μ x μ' := by
  refine Ev_iload_n dX10_read_243 rfl ?_
  refine Ev_iconst 3 dX10_read_244 (by decide) ?_
  refine Ev_icmp_ge 261 dX10_read_245 (by decide) (fun q => ?_) (fun q => ?_)
  · have h := h.1 q
    refine Ev_iconst 0 dX10_read_261 (by decide) ?_
    obtain ⟨rfl, rfl⟩ := h
    exact R_i rfl dX10_read_262 rfl
  · have h := h.2 q
    refine Ev_aload_n dX10_read_248 rfl ?_
    refine Ev_getF 14 3 45 flX10_152 rfl dX10_read_249 ?_
    refine Ev_iload_n dX10_read_252 rfl ?_
    refine Ev_iconst 0 dX10_read_253 (by decide) ?_
    obtain ⟨g, h⟩ := h
    refine Ev_zast g dX10_read_254 ?_
    have h := h _ rfl
    refine Ev_iinc (x1 + 1) dX10_read_255 rfl rfl (okp_of rfl) ?_
    refine Ev_goto 243 dX10_read_258 (by decide) ?_
    exact h
set_option maxHeartbeats 4000000 in
set_option maxRecDepth 100000 in
theorem X10_restore_ok {d : Nat} {x1 : Int32} {μ μ' : Mem} {x : Int32} (h : (∃ (y3 : Int32) (μ1 : Mem), X10_in d x1 0 2 μ y3 μ1 ∧ ((y3 = 0 → (x = 0 ∧ μ' = μ1)) ∧ (¬ y3 = 0 → vp_in x1 3 ∧ (((μ1.1 45 x1.toNatClampNeg) ≠ 0 → X10_restore_at22 d x1 0 μ1 x μ') ∧ ((μ1.1 45 x1.toNatClampNeg) = 0 → (x = 0 ∧ μ' = μ1))))))) : X10_restore (d + 1) x1 μ x μ' := by
  refine Me_of [some (vr 10 0 0), some (vi x1), none] rfl (Nat.le_of_ble_eq_true rfl) (by decide) ?_
  refine Ev_iload_n dX10_restore_0 rfl ?_
  refine Ev_iconst 0 dX10_restore_1 (by decide) ?_
  refine Ev_iconst 2 dX10_restore_2 (by decide) ?_
  obtain ⟨y3, μ1, hM2, h⟩ := h
  refine Ev_callS [_, _, _] mlX10_323 rfl rfl (Nat.le_of_ble_eq_true rfl) dX10_restore_3 hM2 ?_
  refine Ev_if_eq 18 dX10_restore_6 (by decide) (fun q => ?_) (fun q => ?_)
  · have h := h.1 q
    refine Ev_iconst 0 dX10_restore_18 (by decide) ?_
    obtain ⟨rfl, rfl⟩ := h
    exact R_i rfl dX10_restore_19 rfl
  · have h := h.2 q
    refine Ev_aload_n dX10_restore_9 rfl ?_
    refine Ev_getF 14 3 45 flX10_152 rfl dX10_restore_10 ?_
    refine Ev_iload_n dX10_restore_13 rfl ?_
    obtain ⟨g, h⟩ := h
    refine Ev_zald g dX10_restore_14 ?_
    refine Ev_if_ne 20 dX10_restore_15 (by decide) (fun q => ?_) (fun q => ?_)
    · have h := h.1 q
      refine Ev_iconst 0 dX10_restore_20 (by decide) ?_
      refine Ev_istore_n dX10_restore_21 (Nat.le_of_ble_eq_true rfl) (okp_of rfl) ?_
      exact h
    · have h := h.2 q
      refine Ev_iconst 0 dX10_restore_18 (by decide) ?_
      obtain ⟨rfl, rfl⟩ := h
      exact R_i rfl dX10_restore_19 rfl
set_option maxHeartbeats 4000000 in
set_option maxRecDepth 100000 in
theorem X10_restore_at22_ok {d : Nat} {x1 : Int32} {x2 : Int32} {μ μ' : Mem} {x : Int32} (h : ((92 ≤ x2 → (∀ μ1 : Mem, μ1 = sI μ 0 53 0 → (x = 1 ∧ μ' = μ1))) ∧ (¬ 92 ≤ x2 → vp_in ((92 * x1) + x2) 276 ∧ vp_in x2 92 ∧ (∀ μ2 : Mem, μ2 = sI μ 33 x2.toNatClampNeg (μ.1 46 (((92 * x1) + x2).toNatClampNeg)) → X10_restore_at22 d x1 (x2 + 1) μ2 x μ')))) : X10_restore_at22 d x1 x2 μ x μ' := by
  refine Ev_iload_n dX10_restore_22 rfl ?_
  refine Ev_bipush 92 dX10_restore_23 (by decide) ?_
  refine Ev_icmp_ge 51 dX10_restore_25 (by decide) (fun q => ?_) (fun q => ?_)
  · have h := h.1 q
    refine Ev_aload_n dX10_restore_51 rfl ?_
    refine Ev_iconst 0 dX10_restore_52 (by decide) ?_
    refine Ev_putI .int flX10_265 fpX10_53 rfl rfl rfl dX10_restore_53 ?_
    have h := h _ rfl
    refine Ev_iconst 1 dX10_restore_56 (by decide) ?_
    obtain ⟨rfl, rfl⟩ := h
    exact R_i rfl dX10_restore_57 rfl
  · have h := h.2 q
    refine Ev_aload_n dX10_restore_28 rfl ?_
    refine Ev_getF 11 92 33 flX10_116 rfl dX10_restore_29 ?_
    refine Ev_iload_n dX10_restore_32 rfl ?_
    refine Ev_aload_n dX10_restore_33 rfl ?_
    refine Ev_getF 11 276 46 flX10_155 rfl dX10_restore_34 ?_
    refine Ev_bipush 92 dX10_restore_37 (by decide) ?_
    refine Ev_iload_n dX10_restore_39 rfl ?_
    refine Ev_imul dX10_restore_40 ?_
    refine Ev_iload_n dX10_restore_41 rfl ?_
    refine Ev_iadd dX10_restore_42 ?_
    obtain ⟨g, h⟩ := h
    refine Ev_iald g dX10_restore_43 ?_
    obtain ⟨g, h⟩ := h
    refine Ev_iast g dX10_restore_44 ?_
    have h := h _ rfl
    refine Ev_iinc (x2 + 1) dX10_restore_45 rfl rfl (okp_of rfl) ?_
    refine Ev_goto 22 dX10_restore_48 (by decide) ?_
    exact h
set_option maxHeartbeats 4000000 in
set_option maxRecDepth 100000 in
theorem X10_roomFor_ok {d : Nat} {x1 : Int32} {x2 : Int32} {μ μ' : Mem} (h : ((x1 ≠ x2 → (((μ.1 0 13) ≠ 0 → μ' = μ) ∧ ((μ.1 0 13) = 0 → (∃ (μ1 : Mem), X10_goesOn d μ μ1 ∧ μ' = μ1)))) ∧ (x1 = x2 → (∃ (μ3 : Mem), X10_fail d 2 μ μ3 ∧ (((μ3.1 0 13) ≠ 0 → μ' = μ3) ∧ ((μ3.1 0 13) = 0 → (∃ (μ5 : Mem), X10_goesOn d μ3 μ5 ∧ μ' = μ5))))))) : X10_roomFor (d + 1) x1 x2 μ μ' := by
  refine Me_of [some (vr 10 0 0), some (vi x1), some (vi x2)] rfl (Nat.le_of_ble_eq_true rfl) (by decide) ?_
  refine Ev_iload_n dX10_roomFor_0 rfl ?_
  refine Ev_iload_n dX10_roomFor_1 rfl ?_
  refine Ev_icmp_ne 10 dX10_roomFor_2 (by decide) (fun q => ?_) (fun q => ?_)
  · have h := h.1 q
    refine Ev_aload_n dX10_roomFor_10 rfl ?_
    refine Ev_getI flX10_209 rfl dX10_roomFor_11 ?_
    refine Ev_if_ne 21 dX10_roomFor_14 (by decide) (fun q => ?_) (fun q => ?_)
    · have h := h.1 q
      subst h
      exact R_v rfl dX10_roomFor_21
    · have h := h.2 q
      refine Ev_aload_n dX10_roomFor_17 rfl ?_
      obtain ⟨μ1, hM2, h⟩ := h
      refine Ev_callV [] mlX10_230 rfl rfl (Nat.le_of_ble_eq_true rfl) dX10_roomFor_18 hM2 ?_
      subst h
      exact R_v rfl dX10_roomFor_21
  · have h := h.2 q
    refine Ev_aload_n dX10_roomFor_5 rfl ?_
    refine Ev_iconst 2 dX10_roomFor_6 (by decide) ?_
    obtain ⟨μ3, hM4, h⟩ := h
    refine Ev_callV [_] mlX10_224 rfl rfl (Nat.le_of_ble_eq_true rfl) dX10_roomFor_7 hM4 ?_
    refine Ev_aload_n dX10_roomFor_10 rfl ?_
    refine Ev_getI flX10_209 rfl dX10_roomFor_11 ?_
    refine Ev_if_ne 21 dX10_roomFor_14 (by decide) (fun q => ?_) (fun q => ?_)
    · have h := h.1 q
      subst h
      exact R_v rfl dX10_roomFor_21
    · have h := h.2 q
      refine Ev_aload_n dX10_roomFor_17 rfl ?_
      obtain ⟨μ5, hM6, h⟩ := h
      refine Ev_callV [] mlX10_230 rfl rfl (Nat.le_of_ble_eq_true rfl) dX10_roomFor_18 hM6 ?_
      subst h
      exact R_v rfl dX10_roomFor_21
set_option maxHeartbeats 4000000 in
set_option maxRecDepth 100000 in
theorem X10_round_ok {d : Nat} {x1 : Int32} {μ μ' : Mem} {x : Int32} (h : (∃ (y3 : Int32) (μ1 : Mem), X10_isLoom d x1 μ y3 μ1 ∧ ((y3 ≠ 0 → X10_round_at12 d x1 1 μ1 x μ') ∧ (y3 = 0 → (x = (-1) ∧ μ' = μ1))))) : X10_round (d + 1) x1 μ x μ' := by
  refine Me_of [some (vr 10 0 0), some (vi x1), none] rfl (Nat.le_of_ble_eq_true rfl) (by decide) ?_
  refine Ev_aload_n dX10_round_0 rfl ?_
  refine Ev_iload_n dX10_round_1 rfl ?_
  obtain ⟨y3, μ1, hM2, h⟩ := h
  refine Ev_callV [_] mlX10_393 rfl rfl (Nat.le_of_ble_eq_true rfl) dX10_round_2 hM2 ?_
  refine Ev_if_ne 10 dX10_round_5 (by decide) (fun q => ?_) (fun q => ?_)
  · have h := h.1 q
    refine Ev_iconst 1 dX10_round_10 (by decide) ?_
    refine Ev_istore_n dX10_round_11 (Nat.le_of_ble_eq_true rfl) (okp_of rfl) ?_
    exact h
  · have h := h.2 q
    refine Ev_iconst (-1) dX10_round_8 (by decide) ?_
    obtain ⟨rfl, rfl⟩ := h
    exact R_i rfl dX10_round_9 rfl
set_option maxHeartbeats 4000000 in
set_option maxRecDepth 100000 in
theorem X10_round_at12_ok {d : Nat} {x1 : Int32} {x2 : Int32} {μ μ' : Mem} {x : Int32} (h : ((99 < x2 → (x = (-2) ∧ μ' = μ)) ∧ (¬ 99 < x2 → (∃ (y3 : Int32) (μ1 : Mem), X10_isRound d x1 x2 μ y3 μ1 ∧ ((y3 = 0 → X10_round_at12 d x1 (x2 + 1) μ1 x μ') ∧ (¬ y3 = 0 → (x = x2 ∧ μ' = μ1))))))) : X10_round_at12 d x1 x2 μ x μ' := by
  refine Ev_iload_n dX10_round_12 rfl ?_
  refine Ev_bipush 99 dX10_round_13 (by decide) ?_
  refine Ev_icmp_gt 35 dX10_round_15 (by decide) (fun q => ?_) (fun q => ?_)
  · have h := h.1 q
    refine Ev_bipush (-2) dX10_round_35 (by decide) ?_
    obtain ⟨rfl, rfl⟩ := h
    exact R_i rfl dX10_round_37 rfl
  · have h := h.2 q
    refine Ev_aload_n dX10_round_18 rfl ?_
    refine Ev_iload_n dX10_round_19 rfl ?_
    refine Ev_iload_n dX10_round_20 rfl ?_
    obtain ⟨y3, μ1, hM2, h⟩ := h
    refine Ev_callV [_, _] mlX10_408 rfl rfl (Nat.le_of_ble_eq_true rfl) dX10_round_21 hM2 ?_
    refine Ev_if_eq 29 dX10_round_24 (by decide) (fun q => ?_) (fun q => ?_)
    · have h := h.1 q
      refine Ev_iinc (x2 + 1) dX10_round_29 rfl rfl (okp_of rfl) ?_
      refine Ev_goto 12 dX10_round_32 (by decide) ?_
      exact h
    · have h := h.2 q
      refine Ev_iload_n dX10_round_27 rfl ?_
      obtain ⟨rfl, rfl⟩ := h
      exact R_i rfl dX10_round_28 rfl
set_option maxHeartbeats 4000000 in
set_option maxRecDepth 100000 in
theorem X10_serve_ok {d : Nat} {x1 : Int32} {x2 : Int32} {x3 : Int32} {μ μ' : Mem} {x : Int32} (h : (∃ (y3 : Int32) (μ1 : Mem), X10_in d x1 1 8 μ y3 μ1 ∧ ((y3 = 0 → (x = (-1) ∧ μ' = μ1)) ∧ (¬ y3 = 0 → (∃ (y6 : Int32) (μ4 : Mem), X10_in d x2 1 6 μ1 y6 μ4 ∧ ((y6 = 0 → (x = (-1) ∧ μ' = μ4)) ∧ (¬ y6 = 0 → vp_in (μ4.1 0 18) 2 ∧ (∃ (y9 : Int32) (μ7 : Mem), X10_in d x3 (-1) ((μ4.1 15 ((μ4.1 0 18).toNatClampNeg)) - 1) μ4 y9 μ7 ∧ ((y9 ≠ 0 → X10_serve_at44 d x1 x2 x3 0 μ7 x μ') ∧ (y9 = 0 → (x = (-1) ∧ μ' = μ7))))))))))) : X10_serve (d + 1) x1 x2 x3 μ x μ' := by
  refine Me_of [some (vr 10 0 0), some (vi x1), some (vi x2), some (vi x3), none] rfl (Nat.le_of_ble_eq_true rfl) (by decide) ?_
  refine Ev_iload_n dX10_serve_0 rfl ?_
  refine Ev_iconst 1 dX10_serve_1 (by decide) ?_
  refine Ev_bipush 8 dX10_serve_2 (by decide) ?_
  obtain ⟨y3, μ1, hM2, h⟩ := h
  refine Ev_callS [_, _, _] mlX10_323 rfl rfl (Nat.le_of_ble_eq_true rfl) dX10_serve_4 hM2 ?_
  refine Ev_if_eq 39 dX10_serve_7 (by decide) (fun q => ?_) (fun q => ?_)
  · have h := h.1 q
    refine Ev_iconst (-1) dX10_serve_39 (by decide) ?_
    obtain ⟨rfl, rfl⟩ := h
    exact R_i rfl dX10_serve_40 rfl
  · have h := h.2 q
    refine Ev_iload_n dX10_serve_10 rfl ?_
    refine Ev_iconst 1 dX10_serve_11 (by decide) ?_
    refine Ev_bipush 6 dX10_serve_12 (by decide) ?_
    obtain ⟨y6, μ4, hM5, h⟩ := h
    refine Ev_callS [_, _, _] mlX10_323 rfl rfl (Nat.le_of_ble_eq_true rfl) dX10_serve_14 hM5 ?_
    refine Ev_if_eq 39 dX10_serve_17 (by decide) (fun q => ?_) (fun q => ?_)
    · have h := h.1 q
      refine Ev_iconst (-1) dX10_serve_39 (by decide) ?_
      obtain ⟨rfl, rfl⟩ := h
      exact R_i rfl dX10_serve_40 rfl
    · have h := h.2 q
      refine Ev_iload_n dX10_serve_20 rfl ?_
      refine Ev_iconst (-1) dX10_serve_21 (by decide) ?_
      refine Ev_aload_n dX10_serve_22 rfl ?_
      refine Ev_getF 11 2 15 flX10_61 rfl dX10_serve_23 ?_
      refine Ev_aload_n dX10_serve_26 rfl ?_
      refine Ev_getI flX10_239 rfl dX10_serve_27 ?_
      obtain ⟨g, h⟩ := h
      refine Ev_iald g dX10_serve_30 ?_
      refine Ev_iconst 1 dX10_serve_31 (by decide) ?_
      refine Ev_isub dX10_serve_32 ?_
      obtain ⟨y9, μ7, hM8, h⟩ := h
      refine Ev_callS [_, _, _] mlX10_323 rfl rfl (Nat.le_of_ble_eq_true rfl) dX10_serve_33 hM8 ?_
      refine Ev_if_ne 41 dX10_serve_36 (by decide) (fun q => ?_) (fun q => ?_)
      · have h := h.1 q
        refine Ev_iconst 0 dX10_serve_41 (by decide) ?_
        refine Ev_istore dX10_serve_42 (Nat.le_of_ble_eq_true rfl) (okp_of rfl) ?_
        exact h
      · have h := h.2 q
        refine Ev_iconst (-1) dX10_serve_39 (by decide) ?_
        obtain ⟨rfl, rfl⟩ := h
        exact R_i rfl dX10_serve_40 rfl
set_option maxHeartbeats 4000000 in
set_option maxRecDepth 100000 in
theorem X10_serve_at44_ok {d : Nat} {x1 : Int32} {x2 : Int32} {x3 : Int32} {x4 : Int32} {μ μ' : Mem} {x : Int32} (h : vp_in (μ.1 0 18) 2 ∧ (((μ.1 15 ((μ.1 0 18).toNatClampNeg)) ≤ x4 → vp_in (μ.1 0 18) 2 ∧ vp_in (μ.1 0 18) 2 ∧ (((μ.1 15 ((μ.1 0 18).toNatClampNeg)) ≤ (μ.1 12 ((μ.1 0 18).toNatClampNeg)) → (∃ (μ1 : Mem), X10_fillsServe d x1 x2 μ μ1 ∧ ((x3 ≠ (-1) → vp_in (μ1.1 0 18) 2 ∧ (∃ (y5 : Int32) (μ3 : Mem), X10_sixes d (((μ1.1 15 ((μ1.1 0 18).toNatClampNeg)) - 1) - x3) μ1 y5 μ3 ∧ ¬ y5 = 0 ∧ (x = ((μ1.1 0 63) / y5) - ((μ1.1 0 63) / y5) / 6 * 6 ∧ μ' = μ3))) ∧ (x3 = (-1) → (x = μ1.1 0 62 ∧ μ' = μ1))))) ∧ (¬ (μ.1 15 ((μ.1 0 18).toNatClampNeg)) ≤ (μ.1 12 ((μ.1 0 18).toNatClampNeg)) → (x = (-2) ∧ μ' = μ)))) ∧ (¬ (μ.1 15 ((μ.1 0 18).toNatClampNeg)) ≤ x4 → vp_in ((4 * (μ.1 0 18)) + x4) 8 ∧ ((x1 ≤ (μ.1 16 (((4 * (μ.1 0 18)) + x4).toNatClampNeg)) → X10_serve_at44 d x1 x2 x3 (x4 + 1) μ x μ') ∧ (¬ x1 ≤ (μ.1 16 (((4 * (μ.1 0 18)) + x4).toNatClampNeg)) → (x = (-1) ∧ μ' = μ)))))) : X10_serve_at44 d x1 x2 x3 x4 μ x μ' := by
  refine Ev_iload dX10_serve_44 rfl ?_
  refine Ev_aload_n dX10_serve_46 rfl ?_
  refine Ev_getF 11 2 15 flX10_61 rfl dX10_serve_47 ?_
  refine Ev_aload_n dX10_serve_50 rfl ?_
  refine Ev_getI flX10_239 rfl dX10_serve_51 ?_
  obtain ⟨g, h⟩ := h
  refine Ev_iald g dX10_serve_54 ?_
  refine Ev_icmp_ge 84 dX10_serve_55 (by decide) (fun q => ?_) (fun q => ?_)
  · have h := h.1 q
    refine Ev_aload_n dX10_serve_84 rfl ?_
    refine Ev_getF 11 2 15 flX10_61 rfl dX10_serve_85 ?_
    refine Ev_aload_n dX10_serve_88 rfl ?_
    refine Ev_getI flX10_239 rfl dX10_serve_89 ?_
    obtain ⟨g, h⟩ := h
    refine Ev_iald g dX10_serve_92 ?_
    refine Ev_aload_n dX10_serve_93 rfl ?_
    refine Ev_getF 11 2 12 flX10_52 rfl dX10_serve_94 ?_
    refine Ev_aload_n dX10_serve_97 rfl ?_
    refine Ev_getI flX10_239 rfl dX10_serve_98 ?_
    obtain ⟨g, h⟩ := h
    refine Ev_iald g dX10_serve_101 ?_
    refine Ev_icmp_le 108 dX10_serve_102 (by decide) (fun q => ?_) (fun q => ?_)
    · have h := h.1 q
      refine Ev_aload_n dX10_serve_108 rfl ?_
      refine Ev_iload_n dX10_serve_109 rfl ?_
      refine Ev_iload_n dX10_serve_110 rfl ?_
      obtain ⟨μ1, hM2, h⟩ := h
      refine Ev_callV [_, _] mlX10_464 rfl rfl (Nat.le_of_ble_eq_true rfl) dX10_serve_111 hM2 ?_
      refine Ev_iload_n dX10_serve_114 rfl ?_
      refine Ev_iconst (-1) dX10_serve_115 (by decide) ?_
      refine Ev_icmp_ne 126 dX10_serve_116 (by decide) (fun q => ?_) (fun q => ?_)
      · have h := h.1 q
        refine Ev_aload_n dX10_serve_126 rfl ?_
        refine Ev_getI flX10_455 rfl dX10_serve_127 ?_
        refine Ev_aload_n dX10_serve_130 rfl ?_
        refine Ev_getF 11 2 15 flX10_61 rfl dX10_serve_131 ?_
        refine Ev_aload_n dX10_serve_134 rfl ?_
        refine Ev_getI flX10_239 rfl dX10_serve_135 ?_
        obtain ⟨g, h⟩ := h
        refine Ev_iald g dX10_serve_138 ?_
        refine Ev_iconst 1 dX10_serve_139 (by decide) ?_
        refine Ev_isub dX10_serve_140 ?_
        refine Ev_iload_n dX10_serve_141 rfl ?_
        refine Ev_isub dX10_serve_142 ?_
        obtain ⟨y5, μ3, hM4, h⟩ := h
        refine Ev_callS [_] mlX10_448 rfl rfl (Nat.le_of_ble_eq_true rfl) dX10_serve_143 hM4 ?_
        obtain ⟨g, h⟩ := h
        refine Ev_idiv dX10_serve_146 g ?_
        refine Ev_bipush 6 dX10_serve_147 (by decide) ?_
        refine Ev_irem dX10_serve_149 (by decide) ?_
        obtain ⟨rfl, rfl⟩ := h
        exact R_i rfl dX10_serve_150 rfl
      · have h := h.2 q
        refine Ev_aload_n dX10_serve_119 rfl ?_
        refine Ev_getI flX10_461 rfl dX10_serve_120 ?_
        refine Ev_goto 150 dX10_serve_123 (by decide) ?_
        obtain ⟨rfl, rfl⟩ := h
        exact R_i rfl dX10_serve_150 rfl
    · have h := h.2 q
      refine Ev_bipush (-2) dX10_serve_105 (by decide) ?_
      obtain ⟨rfl, rfl⟩ := h
      exact R_i rfl dX10_serve_107 rfl
  · have h := h.2 q
    refine Ev_aload_n dX10_serve_58 rfl ?_
    refine Ev_getF 11 8 16 flX10_64 rfl dX10_serve_59 ?_
    refine Ev_iconst 4 dX10_serve_62 (by decide) ?_
    refine Ev_aload_n dX10_serve_63 rfl ?_
    refine Ev_getI flX10_239 rfl dX10_serve_64 ?_
    refine Ev_imul dX10_serve_67 ?_
    refine Ev_iload dX10_serve_68 rfl ?_
    refine Ev_iadd dX10_serve_70 ?_
    obtain ⟨g, h⟩ := h
    refine Ev_iald g dX10_serve_71 ?_
    refine Ev_iload_n dX10_serve_72 rfl ?_
    refine Ev_icmp_ge 78 dX10_serve_73 (by decide) (fun q => ?_) (fun q => ?_)
    · have h := h.1 q
      refine Ev_iinc (x4 + 1) dX10_serve_78 rfl rfl (okp_of rfl) ?_
      refine Ev_goto 44 dX10_serve_81 (by decide) ?_
      exact h
    · have h := h.2 q
      refine Ev_iconst (-1) dX10_serve_76 (by decide) ?_
      obtain ⟨rfl, rfl⟩ := h
      exact R_i rfl dX10_serve_77 rfl
set_option maxHeartbeats 4000000 in
set_option maxRecDepth 100000 in
theorem X10_sign_ok {d : Nat} {x1 : Int32} {x2 : Int32} {x3 : Int32} {μ μ' : Mem} {x : Int32} (h : ((x2 ≠ 59 → ((x2 ≠ 61 → ((x2 ≠ 40 → ((x2 ≠ 41 → ((x2 ≠ 43 → X10_sign_at55 d x1 x2 3 μ x μ') ∧ (x2 = 43 → X10_sign_at55 d x1 x2 8 μ x μ'))) ∧ (x2 = 41 → ((x2 ≠ 43 → X10_sign_at55 d x1 x2 7 μ x μ') ∧ (x2 = 43 → X10_sign_at55 d x1 x2 8 μ x μ'))))) ∧ (x2 = 40 → ((x2 ≠ 43 → X10_sign_at55 d x1 x2 6 μ x μ') ∧ (x2 = 43 → X10_sign_at55 d x1 x2 8 μ x μ'))))) ∧ (x2 = 61 → ((x2 ≠ 43 → X10_sign_at55 d x1 x2 5 μ x μ') ∧ (x2 = 43 → X10_sign_at55 d x1 x2 8 μ x μ'))))) ∧ (x2 = 59 → ((x2 ≠ 43 → X10_sign_at55 d x1 x2 4 μ x μ') ∧ (x2 = 43 → X10_sign_at55 d x1 x2 8 μ x μ'))))) : X10_sign (d + 1) x1 x2 x3 μ x μ' := by
  refine Me_of [some (vr 10 0 0), some (vi x1), some (vi x2), some (vi x3), none] rfl (Nat.le_of_ble_eq_true rfl) (by decide) ?_
  refine Ev_iload_n dX10_sign_0 rfl ?_
  refine Ev_bipush 59 dX10_sign_1 (by decide) ?_
  refine Ev_icmp_ne 10 dX10_sign_3 (by decide) (fun q => ?_) (fun q => ?_)
  · have h := h.1 q
    refine Ev_iload_n dX10_sign_10 rfl ?_
    refine Ev_bipush 61 dX10_sign_11 (by decide) ?_
    refine Ev_icmp_ne 20 dX10_sign_13 (by decide) (fun q => ?_) (fun q => ?_)
    · have h := h.1 q
      refine Ev_iload_n dX10_sign_20 rfl ?_
      refine Ev_bipush 40 dX10_sign_21 (by decide) ?_
      refine Ev_icmp_ne 31 dX10_sign_23 (by decide) (fun q => ?_) (fun q => ?_)
      · have h := h.1 q
        refine Ev_iload_n dX10_sign_31 rfl ?_
        refine Ev_bipush 41 dX10_sign_32 (by decide) ?_
        refine Ev_icmp_ne 42 dX10_sign_34 (by decide) (fun q => ?_) (fun q => ?_)
        · have h := h.1 q
          refine Ev_iconst 3 dX10_sign_42 (by decide) ?_
          refine Ev_istore dX10_sign_43 (Nat.le_of_ble_eq_true rfl) (okp_of rfl) ?_
          refine Ev_iload_n dX10_sign_45 rfl ?_
          refine Ev_bipush 43 dX10_sign_46 (by decide) ?_
          refine Ev_icmp_ne 55 dX10_sign_48 (by decide) (fun q => ?_) (fun q => ?_)
          · have h := h.1 q
            refine Ev_weak ?_ h
            exact And.intro rfl (And.intro rfl (And.intro rfl (And.intro trivial (And.intro rfl (trivial)))))
          · have h := h.2 q
            refine Ev_bipush 8 dX10_sign_51 (by decide) ?_
            refine Ev_istore dX10_sign_53 (Nat.le_of_ble_eq_true rfl) (okp_of rfl) ?_
            refine Ev_weak ?_ h
            exact And.intro rfl (And.intro rfl (And.intro rfl (And.intro trivial (And.intro rfl (trivial)))))
        · have h := h.2 q
          refine Ev_bipush 7 dX10_sign_37 (by decide) ?_
          refine Ev_goto 43 dX10_sign_39 (by decide) ?_
          refine Ev_istore dX10_sign_43 (Nat.le_of_ble_eq_true rfl) (okp_of rfl) ?_
          refine Ev_iload_n dX10_sign_45 rfl ?_
          refine Ev_bipush 43 dX10_sign_46 (by decide) ?_
          refine Ev_icmp_ne 55 dX10_sign_48 (by decide) (fun q => ?_) (fun q => ?_)
          · have h := h.1 q
            refine Ev_weak ?_ h
            exact And.intro rfl (And.intro rfl (And.intro rfl (And.intro trivial (And.intro rfl (trivial)))))
          · have h := h.2 q
            refine Ev_bipush 8 dX10_sign_51 (by decide) ?_
            refine Ev_istore dX10_sign_53 (Nat.le_of_ble_eq_true rfl) (okp_of rfl) ?_
            refine Ev_weak ?_ h
            exact And.intro rfl (And.intro rfl (And.intro rfl (And.intro trivial (And.intro rfl (trivial)))))
      · have h := h.2 q
        refine Ev_bipush 6 dX10_sign_26 (by decide) ?_
        refine Ev_goto 43 dX10_sign_28 (by decide) ?_
        refine Ev_istore dX10_sign_43 (Nat.le_of_ble_eq_true rfl) (okp_of rfl) ?_
        refine Ev_iload_n dX10_sign_45 rfl ?_
        refine Ev_bipush 43 dX10_sign_46 (by decide) ?_
        refine Ev_icmp_ne 55 dX10_sign_48 (by decide) (fun q => ?_) (fun q => ?_)
        · have h := h.1 q
          refine Ev_weak ?_ h
          exact And.intro rfl (And.intro rfl (And.intro rfl (And.intro trivial (And.intro rfl (trivial)))))
        · have h := h.2 q
          refine Ev_bipush 8 dX10_sign_51 (by decide) ?_
          refine Ev_istore dX10_sign_53 (Nat.le_of_ble_eq_true rfl) (okp_of rfl) ?_
          refine Ev_weak ?_ h
          exact And.intro rfl (And.intro rfl (And.intro rfl (And.intro trivial (And.intro rfl (trivial)))))
    · have h := h.2 q
      refine Ev_iconst 5 dX10_sign_16 (by decide) ?_
      refine Ev_goto 43 dX10_sign_17 (by decide) ?_
      refine Ev_istore dX10_sign_43 (Nat.le_of_ble_eq_true rfl) (okp_of rfl) ?_
      refine Ev_iload_n dX10_sign_45 rfl ?_
      refine Ev_bipush 43 dX10_sign_46 (by decide) ?_
      refine Ev_icmp_ne 55 dX10_sign_48 (by decide) (fun q => ?_) (fun q => ?_)
      · have h := h.1 q
        refine Ev_weak ?_ h
        exact And.intro rfl (And.intro rfl (And.intro rfl (And.intro trivial (And.intro rfl (trivial)))))
      · have h := h.2 q
        refine Ev_bipush 8 dX10_sign_51 (by decide) ?_
        refine Ev_istore dX10_sign_53 (Nat.le_of_ble_eq_true rfl) (okp_of rfl) ?_
        refine Ev_weak ?_ h
        exact And.intro rfl (And.intro rfl (And.intro rfl (And.intro trivial (And.intro rfl (trivial)))))
  · have h := h.2 q
    refine Ev_iconst 4 dX10_sign_6 (by decide) ?_
    refine Ev_goto 43 dX10_sign_7 (by decide) ?_
    refine Ev_istore dX10_sign_43 (Nat.le_of_ble_eq_true rfl) (okp_of rfl) ?_
    refine Ev_iload_n dX10_sign_45 rfl ?_
    refine Ev_bipush 43 dX10_sign_46 (by decide) ?_
    refine Ev_icmp_ne 55 dX10_sign_48 (by decide) (fun q => ?_) (fun q => ?_)
    · have h := h.1 q
      refine Ev_weak ?_ h
      exact And.intro rfl (And.intro rfl (And.intro rfl (And.intro trivial (And.intro rfl (trivial)))))
    · have h := h.2 q
      refine Ev_bipush 8 dX10_sign_51 (by decide) ?_
      refine Ev_istore dX10_sign_53 (Nat.le_of_ble_eq_true rfl) (okp_of rfl) ?_
      refine Ev_weak ?_ h
      exact And.intro rfl (And.intro rfl (And.intro rfl (And.intro trivial (And.intro rfl (trivial)))))
set_option maxHeartbeats 4000000 in
set_option maxRecDepth 100000 in
theorem X10_sign_at55_ok {d : Nat} {x1 : Int32} {x2 : Int32} {x4 : Int32} {μ μ' : Mem} {x : Int32} (h : ((x2 ≠ 45 → X10_sign_at65 d x1 x2 x4 μ x μ') ∧ (x2 = 45 → X10_sign_at65 d x1 x2 9 μ x μ'))) : X10_sign_at55 d x1 x2 x4 μ x μ' := by
  refine Ev_iload_n dX10_sign_55 rfl ?_
  refine Ev_bipush 45 dX10_sign_56 (by decide) ?_
  refine Ev_icmp_ne 65 dX10_sign_58 (by decide) (fun q => ?_) (fun q => ?_)
  · have h := h.1 q
    exact h
  · have h := h.2 q
    refine Ev_bipush 9 dX10_sign_61 (by decide) ?_
    refine Ev_istore dX10_sign_63 (Nat.le_of_ble_eq_true rfl) (okp_of rfl) ?_
    exact h
set_option maxHeartbeats 4000000 in
set_option maxRecDepth 100000 in
theorem X10_sign_at65_ok {d : Nat} {x1 : Int32} {x2 : Int32} {x4 : Int32} {μ μ' : Mem} {x : Int32} (h : ((x2 ≠ 42 → X10_sign_at75 d x1 x2 x4 μ x μ') ∧ (x2 = 42 → X10_sign_at75 d x1 x2 10 μ x μ'))) : X10_sign_at65 d x1 x2 x4 μ x μ' := by
  refine Ev_iload_n dX10_sign_65 rfl ?_
  refine Ev_bipush 42 dX10_sign_66 (by decide) ?_
  refine Ev_icmp_ne 75 dX10_sign_68 (by decide) (fun q => ?_) (fun q => ?_)
  · have h := h.1 q
    exact h
  · have h := h.2 q
    refine Ev_bipush 10 dX10_sign_71 (by decide) ?_
    refine Ev_istore dX10_sign_73 (Nat.le_of_ble_eq_true rfl) (okp_of rfl) ?_
    exact h
set_option maxHeartbeats 4000000 in
set_option maxRecDepth 100000 in
theorem X10_sign_at75_ok {d : Nat} {x1 : Int32} {x2 : Int32} {x4 : Int32} {μ μ' : Mem} {x : Int32} (h : ((x2 ≠ 47 → X10_sign_at85 d x1 x2 x4 μ x μ') ∧ (x2 = 47 → X10_sign_at85 d x1 x2 15 μ x μ'))) : X10_sign_at75 d x1 x2 x4 μ x μ' := by
  refine Ev_iload_n dX10_sign_75 rfl ?_
  refine Ev_bipush 47 dX10_sign_76 (by decide) ?_
  refine Ev_icmp_ne 85 dX10_sign_78 (by decide) (fun q => ?_) (fun q => ?_)
  · have h := h.1 q
    exact h
  · have h := h.2 q
    refine Ev_bipush 15 dX10_sign_81 (by decide) ?_
    refine Ev_istore dX10_sign_83 (Nat.le_of_ble_eq_true rfl) (okp_of rfl) ?_
    exact h
set_option maxHeartbeats 4000000 in
set_option maxRecDepth 100000 in
theorem X10_sign_at85_ok {d : Nat} {x1 : Int32} {x2 : Int32} {x4 : Int32} {μ μ' : Mem} {x : Int32} (h : ((x2 ≠ 60 → (∃ (μ1 : Mem), X10_token d x4 x1 0 0 μ μ1 ∧ (x = 1 ∧ μ' = μ1))) ∧ (x2 = 60 → (∃ (μ3 : Mem), X10_token d 13 x1 0 0 μ μ3 ∧ (x = 1 ∧ μ' = μ3))))) : X10_sign_at85 d x1 x2 x4 μ x μ' := by
  refine Ev_iload_n dX10_sign_85 rfl ?_
  refine Ev_bipush 60 dX10_sign_86 (by decide) ?_
  refine Ev_icmp_ne 95 dX10_sign_88 (by decide) (fun q => ?_) (fun q => ?_)
  · have h := h.1 q
    refine Ev_aload_n dX10_sign_95 rfl ?_
    refine Ev_iload dX10_sign_96 rfl ?_
    refine Ev_iload_n dX10_sign_98 rfl ?_
    refine Ev_iconst 0 dX10_sign_99 (by decide) ?_
    refine Ev_lconst 0 dX10_sign_100 (by decide) ?_
    obtain ⟨μ1, hM2, h⟩ := h
    refine Ev_callV [_, _, _, _] mlX10_194 rfl rfl (Nat.le_of_ble_eq_true rfl) dX10_sign_101 hM2 ?_
    refine Ev_iconst 1 dX10_sign_104 (by decide) ?_
    obtain ⟨rfl, rfl⟩ := h
    exact R_i rfl dX10_sign_105 rfl
  · have h := h.2 q
    refine Ev_bipush 13 dX10_sign_91 (by decide) ?_
    refine Ev_istore dX10_sign_93 (Nat.le_of_ble_eq_true rfl) (okp_of rfl) ?_
    refine Ev_aload_n dX10_sign_95 rfl ?_
    refine Ev_iload dX10_sign_96 rfl ?_
    refine Ev_iload_n dX10_sign_98 rfl ?_
    refine Ev_iconst 0 dX10_sign_99 (by decide) ?_
    refine Ev_lconst 0 dX10_sign_100 (by decide) ?_
    obtain ⟨μ3, hM4, h⟩ := h
    refine Ev_callV [_, _, _, _] mlX10_194 rfl rfl (Nat.le_of_ble_eq_true rfl) dX10_sign_101 hM4 ?_
    refine Ev_iconst 1 dX10_sign_104 (by decide) ?_
    obtain ⟨rfl, rfl⟩ := h
    exact R_i rfl dX10_sign_105 rfl
set_option maxHeartbeats 4000000 in
set_option maxRecDepth 100000 in
theorem X10_sixes_ok {d : Nat} {x0 : Int32} {μ μ' : Mem} {x : Int32} (h : X10_sixes_at4 d x0 1 0 μ x μ') : X10_sixes d x0 μ x μ' := by
  refine Me_of [some (vi x0), none, none] rfl (Nat.le_of_ble_eq_true rfl) (by decide) ?_
  refine Ev_iconst 1 dX10_sixes_0 (by decide) ?_
  refine Ev_istore_n dX10_sixes_1 (Nat.le_of_ble_eq_true rfl) (okp_of rfl) ?_
  refine Ev_iconst 0 dX10_sixes_2 (by decide) ?_
  refine Ev_istore_n dX10_sixes_3 (Nat.le_of_ble_eq_true rfl) (okp_of rfl) ?_
  exact h
set_option maxHeartbeats 4000000 in
set_option maxRecDepth 100000 in
theorem X10_sixes_at4_ok {d : Nat} {x0 : Int32} {x1 : Int32} {x2 : Int32} {μ μ' : Mem} {x : Int32} (h : ((x0 ≤ x2 → (x = x1 ∧ μ' = μ)) ∧ (¬ x0 ≤ x2 → X10_sixes_at4 d x0 (x1 * 6) (x2 + 1) μ x μ'))) : X10_sixes_at4 d x0 x1 x2 μ x μ' := by
  refine Ev_iload_n dX10_sixes_4 rfl ?_
  refine Ev_iload_n dX10_sixes_5 rfl ?_
  refine Ev_icmp_ge 20 dX10_sixes_6 (by decide) (fun q => ?_) (fun q => ?_)
  · have h := h.1 q
    refine Ev_iload_n dX10_sixes_20 rfl ?_
    obtain ⟨rfl, rfl⟩ := h
    exact R_i rfl dX10_sixes_21 rfl
  · have h := h.2 q
    refine Ev_iload_n dX10_sixes_9 rfl ?_
    refine Ev_bipush 6 dX10_sixes_10 (by decide) ?_
    refine Ev_imul dX10_sixes_12 ?_
    refine Ev_istore_n dX10_sixes_13 (Nat.le_of_ble_eq_true rfl) (okp_of rfl) ?_
    refine Ev_iinc (x2 + 1) dX10_sixes_14 rfl rfl (okp_of rfl) ?_
    refine Ev_goto 4 dX10_sixes_17 (by decide) ?_
    exact h
set_option maxHeartbeats 4000000 in
set_option maxRecDepth 100000 in
theorem X10_stop_ok {d : Nat} {x1 : Int32} {μ μ' : Mem} {x : Int32} (h : (∃ (y3 : Int32) (μ1 : Mem), X10_isLoom d x1 μ y3 μ1 ∧ ((y3 = 0 → (x = 0 ∧ μ' = μ1)) ∧ (¬ y3 = 0 → vp_in (52 + x1) 92 ∧ (((μ1.1 33 ((52 + x1).toNatClampNeg)) ≠ 0 → (∃ (μ4 : Mem), X10_copies d μ1 μ4 ∧ X10_stop_at29 d x1 52 μ4 x μ')) ∧ ((μ1.1 33 ((52 + x1).toNatClampNeg)) = 0 → (x = 0 ∧ μ' = μ1))))))) : X10_stop (d + 1) x1 μ x μ' := by
  refine Me_of [some (vr 10 0 0), some (vi x1), none] rfl (Nat.le_of_ble_eq_true rfl) (by decide) ?_
  refine Ev_aload_n dX10_stop_0 rfl ?_
  refine Ev_iload_n dX10_stop_1 rfl ?_
  obtain ⟨y3, μ1, hM2, h⟩ := h
  refine Ev_callV [_] mlX10_393 rfl rfl (Nat.le_of_ble_eq_true rfl) dX10_stop_2 hM2 ?_
  refine Ev_if_eq 20 dX10_stop_5 (by decide) (fun q => ?_) (fun q => ?_)
  · have h := h.1 q
    refine Ev_iconst 0 dX10_stop_20 (by decide) ?_
    obtain ⟨rfl, rfl⟩ := h
    exact R_i rfl dX10_stop_21 rfl
  · have h := h.2 q
    refine Ev_aload_n dX10_stop_8 rfl ?_
    refine Ev_getF 11 92 33 flX10_116 rfl dX10_stop_9 ?_
    refine Ev_bipush 52 dX10_stop_12 (by decide) ?_
    refine Ev_iload_n dX10_stop_14 rfl ?_
    refine Ev_iadd dX10_stop_15 ?_
    obtain ⟨g, h⟩ := h
    refine Ev_iald g dX10_stop_16 ?_
    refine Ev_if_ne 22 dX10_stop_17 (by decide) (fun q => ?_) (fun q => ?_)
    · have h := h.1 q
      refine Ev_aload_n dX10_stop_22 rfl ?_
      obtain ⟨μ4, hM5, h⟩ := h
      refine Ev_callV [] mlX10_381 rfl rfl (Nat.le_of_ble_eq_true rfl) dX10_stop_23 hM5 ?_
      refine Ev_bipush 52 dX10_stop_26 (by decide) ?_
      refine Ev_istore_n dX10_stop_28 (Nat.le_of_ble_eq_true rfl) (okp_of rfl) ?_
      exact h
    · have h := h.2 q
      refine Ev_iconst 0 dX10_stop_20 (by decide) ?_
      obtain ⟨rfl, rfl⟩ := h
      exact R_i rfl dX10_stop_21 rfl
set_option maxHeartbeats 4000000 in
set_option maxRecDepth 100000 in
theorem X10_stop_at29_ok {d : Nat} {x1 : Int32} {x2 : Int32} {μ μ' : Mem} {x : Int32} (h : ((68 ≤ x2 → (∃ (μ1 : Mem), X10_keeps d μ μ1 ∧ (x = 1 ∧ μ' = μ1))) ∧ (¬ 68 ≤ x2 → vp_in (x2 + x1) 92 ∧ (∀ μ3 : Mem, μ3 = sI μ 34 ((x2 + x1).toNatClampNeg) 0 → X10_stop_at29 d x1 (x2 + 4) μ3 x μ')))) : X10_stop_at29 d x1 x2 μ x μ' := by
  refine Ev_iload_n dX10_stop_29 rfl ?_
  refine Ev_bipush 68 dX10_stop_30 (by decide) ?_
  refine Ev_icmp_ge 50 dX10_stop_32 (by decide) (fun q => ?_) (fun q => ?_)
  · have h := h.1 q
    refine Ev_aload_n dX10_stop_50 rfl ?_
    obtain ⟨μ1, hM2, h⟩ := h
    refine Ev_callV [] mlX10_399 rfl rfl (Nat.le_of_ble_eq_true rfl) dX10_stop_51 hM2 ?_
    refine Ev_iconst 1 dX10_stop_54 (by decide) ?_
    obtain ⟨rfl, rfl⟩ := h
    exact R_i rfl dX10_stop_55 rfl
  · have h := h.2 q
    refine Ev_aload_n dX10_stop_35 rfl ?_
    refine Ev_getF 11 92 34 flX10_119 rfl dX10_stop_36 ?_
    refine Ev_iload_n dX10_stop_39 rfl ?_
    refine Ev_iload_n dX10_stop_40 rfl ?_
    refine Ev_iadd dX10_stop_41 ?_
    refine Ev_iconst 0 dX10_stop_42 (by decide) ?_
    obtain ⟨g, h⟩ := h
    refine Ev_iast g dX10_stop_43 ?_
    have h := h _ rfl
    refine Ev_iinc (x2 + 4) dX10_stop_44 rfl rfl (okp_of rfl) ?_
    refine Ev_goto 29 dX10_stop_47 (by decide) ?_
    exact h
set_option maxHeartbeats 4000000 in
set_option maxRecDepth 100000 in
theorem X10_suits_ok {d : Nat} {x1 : Int32} {x2 : Int32} {x3 : Int32} {μ μ' : Mem} {x : Int32} (h : (∃ (y3 : Int32) (μ1 : Mem), X10_isField d x1 μ y3 μ1 ∧ ((y3 = 0 → (x = (-1) ∧ μ' = μ1)) ∧ (¬ y3 = 0 → (∃ (y6 : Int32) (μ4 : Mem), X10_in d x2 1 8 μ1 y6 μ4 ∧ ((y6 = 0 → (x = (-1) ∧ μ' = μ4)) ∧ (¬ y6 = 0 → (∃ (y9 : Int32) (μ7 : Mem), X10_in d x3 1 6 μ4 y9 μ7 ∧ ((y9 ≠ 0 → X10_suits_at37 d x1 x2 x3 (-2) 0 μ7 x μ') ∧ (y9 = 0 → (x = (-1) ∧ μ' = μ7))))))))))) : X10_suits (d + 1) x1 x2 x3 μ x μ' := by
  refine Me_of [some (vr 10 0 0), some (vi x1), some (vi x2), some (vi x3), none, none] rfl (Nat.le_of_ble_eq_true rfl) (by decide) ?_
  refine Ev_aload_n dX10_suits_0 rfl ?_
  refine Ev_iload_n dX10_suits_1 rfl ?_
  obtain ⟨y3, μ1, hM2, h⟩ := h
  refine Ev_callV [_] mlX10_387 rfl rfl (Nat.le_of_ble_eq_true rfl) dX10_suits_2 hM2 ?_
  refine Ev_if_eq 28 dX10_suits_5 (by decide) (fun q => ?_) (fun q => ?_)
  · have h := h.1 q
    refine Ev_iconst (-1) dX10_suits_28 (by decide) ?_
    obtain ⟨rfl, rfl⟩ := h
    exact R_i rfl dX10_suits_29 rfl
  · have h := h.2 q
    refine Ev_iload_n dX10_suits_8 rfl ?_
    refine Ev_iconst 1 dX10_suits_9 (by decide) ?_
    refine Ev_bipush 8 dX10_suits_10 (by decide) ?_
    obtain ⟨y6, μ4, hM5, h⟩ := h
    refine Ev_callS [_, _, _] mlX10_323 rfl rfl (Nat.le_of_ble_eq_true rfl) dX10_suits_12 hM5 ?_
    refine Ev_if_eq 28 dX10_suits_15 (by decide) (fun q => ?_) (fun q => ?_)
    · have h := h.1 q
      refine Ev_iconst (-1) dX10_suits_28 (by decide) ?_
      obtain ⟨rfl, rfl⟩ := h
      exact R_i rfl dX10_suits_29 rfl
    · have h := h.2 q
      refine Ev_iload_n dX10_suits_18 rfl ?_
      refine Ev_iconst 1 dX10_suits_19 (by decide) ?_
      refine Ev_bipush 6 dX10_suits_20 (by decide) ?_
      obtain ⟨y9, μ7, hM8, h⟩ := h
      refine Ev_callS [_, _, _] mlX10_323 rfl rfl (Nat.le_of_ble_eq_true rfl) dX10_suits_22 hM8 ?_
      refine Ev_if_ne 30 dX10_suits_25 (by decide) (fun q => ?_) (fun q => ?_)
      · have h := h.1 q
        refine Ev_bipush (-2) dX10_suits_30 (by decide) ?_
        refine Ev_istore dX10_suits_32 (Nat.le_of_ble_eq_true rfl) (okp_of rfl) ?_
        refine Ev_iconst 0 dX10_suits_34 (by decide) ?_
        refine Ev_istore dX10_suits_35 (Nat.le_of_ble_eq_true rfl) (okp_of rfl) ?_
        exact h
      · have h := h.2 q
        refine Ev_iconst (-1) dX10_suits_28 (by decide) ?_
        obtain ⟨rfl, rfl⟩ := h
        exact R_i rfl dX10_suits_29 rfl
set_option maxHeartbeats 4000000 in
set_option maxRecDepth 100000 in
theorem X10_suits_at37_ok {d : Nat} {x1 : Int32} {x2 : Int32} {x3 : Int32} {x4 : Int32} {x5 : Int32} {μ μ' : Mem} {x : Int32} (h : vp_in (μ.1 0 18) 2 ∧ (((μ.1 15 ((μ.1 0 18).toNatClampNeg)) ≤ x5 → (x = x4 ∧ μ' = μ)) ∧ (¬ (μ.1 15 ((μ.1 0 18).toNatClampNeg)) ≤ x5 → vp_in ((4 * (μ.1 0 18)) + x5) 8 ∧ (((μ.1 16 (((4 * (μ.1 0 18)) + x5).toNatClampNeg)) < x2 → X10_suits_at37 d x1 x2 x3 x4 (x5 + 1) μ x μ') ∧ (¬ (μ.1 16 (((4 * (μ.1 0 18)) + x5).toNatClampNeg)) < x2 → ((x4 < 0 → X10_suits_at37 d x1 x2 x3 x5 (x5 + 1) μ x μ') ∧ (¬ x4 < 0 → (∃ (y3 : Int32) (μ1 : Mem), X10_offBy d x5 x1 x2 x3 μ y3 μ1 ∧ (∃ (y6 : Int32) (μ4 : Mem), X10_offBy d x4 x1 x2 x3 μ1 y6 μ4 ∧ ((y6 ≤ y3 → X10_suits_at37 d x1 x2 x3 x4 (x5 + 1) μ4 x μ') ∧ (¬ y6 ≤ y3 → X10_suits_at37 d x1 x2 x3 x5 (x5 + 1) μ4 x μ'))))))))))) : X10_suits_at37 d x1 x2 x3 x4 x5 μ x μ' := by
  refine Ev_iload dX10_suits_37 rfl ?_
  refine Ev_aload_n dX10_suits_39 rfl ?_
  refine Ev_getF 11 2 15 flX10_61 rfl dX10_suits_40 ?_
  refine Ev_aload_n dX10_suits_43 rfl ?_
  refine Ev_getI flX10_239 rfl dX10_suits_44 ?_
  obtain ⟨g, h⟩ := h
  refine Ev_iald g dX10_suits_47 ?_
  refine Ev_icmp_ge 105 dX10_suits_48 (by decide) (fun q => ?_) (fun q => ?_)
  · have h := h.1 q
    refine Ev_iload dX10_suits_105 rfl ?_
    obtain ⟨rfl, rfl⟩ := h
    exact R_i rfl dX10_suits_107 rfl
  · have h := h.2 q
    refine Ev_aload_n dX10_suits_51 rfl ?_
    refine Ev_getF 11 8 16 flX10_64 rfl dX10_suits_52 ?_
    refine Ev_iconst 4 dX10_suits_55 (by decide) ?_
    refine Ev_aload_n dX10_suits_56 rfl ?_
    refine Ev_getI flX10_239 rfl dX10_suits_57 ?_
    refine Ev_imul dX10_suits_60 ?_
    refine Ev_iload dX10_suits_61 rfl ?_
    refine Ev_iadd dX10_suits_63 ?_
    obtain ⟨g, h⟩ := h
    refine Ev_iald g dX10_suits_64 ?_
    refine Ev_iload_n dX10_suits_65 rfl ?_
    refine Ev_icmp_lt 99 dX10_suits_66 (by decide) (fun q => ?_) (fun q => ?_)
    · have h := h.1 q
      refine Ev_iinc (x5 + 1) dX10_suits_99 rfl rfl (okp_of rfl) ?_
      refine Ev_goto 37 dX10_suits_102 (by decide) ?_
      exact h
    · have h := h.2 q
      refine Ev_iload dX10_suits_69 rfl ?_
      refine Ev_if_lt 95 dX10_suits_71 (by decide) (fun q => ?_) (fun q => ?_)
      · have h := h.1 q
        refine Ev_iload dX10_suits_95 rfl ?_
        refine Ev_istore dX10_suits_97 (Nat.le_of_ble_eq_true rfl) (okp_of rfl) ?_
        refine Ev_iinc (x5 + 1) dX10_suits_99 rfl rfl (okp_of rfl) ?_
        refine Ev_goto 37 dX10_suits_102 (by decide) ?_
        exact h
      · have h := h.2 q
        refine Ev_aload_n dX10_suits_74 rfl ?_
        refine Ev_iload dX10_suits_75 rfl ?_
        refine Ev_iload_n dX10_suits_77 rfl ?_
        refine Ev_iload_n dX10_suits_78 rfl ?_
        refine Ev_iload_n dX10_suits_79 rfl ?_
        obtain ⟨y3, μ1, hM2, h⟩ := h
        refine Ev_callV [_, _, _, _] mlX10_451 rfl rfl (Nat.le_of_ble_eq_true rfl) dX10_suits_80 hM2 ?_
        refine Ev_aload_n dX10_suits_83 rfl ?_
        refine Ev_iload dX10_suits_84 rfl ?_
        refine Ev_iload_n dX10_suits_86 rfl ?_
        refine Ev_iload_n dX10_suits_87 rfl ?_
        refine Ev_iload_n dX10_suits_88 rfl ?_
        obtain ⟨y6, μ4, hM5, h⟩ := h
        refine Ev_callV [_, _, _, _] mlX10_451 rfl rfl (Nat.le_of_ble_eq_true rfl) dX10_suits_89 hM5 ?_
        refine Ev_icmp_ge 99 dX10_suits_92 (by decide) (fun q => ?_) (fun q => ?_)
        · have h := h.1 q
          refine Ev_iinc (x5 + 1) dX10_suits_99 rfl rfl (okp_of rfl) ?_
          refine Ev_goto 37 dX10_suits_102 (by decide) ?_
          exact h
        · have h := h.2 q
          refine Ev_iload dX10_suits_95 rfl ?_
          refine Ev_istore dX10_suits_97 (Nat.le_of_ble_eq_true rfl) (okp_of rfl) ?_
          refine Ev_iinc (x5 + 1) dX10_suits_99 rfl rfl (okp_of rfl) ?_
          refine Ev_goto 37 dX10_suits_102 (by decide) ?_
          exact h
set_option maxHeartbeats 4000000 in
set_option maxRecDepth 100000 in
theorem X10_sumNow_ok {d : Nat} {x1 : Int32} {x2 : Int32} {μ μ' : Mem} {x : Int32} (h : X10_sumNow_at5 d x1 x2 0 x1 μ x μ') : X10_sumNow d x1 x2 μ x μ' := by
  refine Me_of [some (vr 10 0 0), some (vi x1), some (vi x2), none, none] rfl (Nat.le_of_ble_eq_true rfl) (by decide) ?_
  refine Ev_iconst 0 dX10_sumNow_0 (by decide) ?_
  refine Ev_istore_n dX10_sumNow_1 (Nat.le_of_ble_eq_true rfl) (okp_of rfl) ?_
  refine Ev_iload_n dX10_sumNow_2 rfl ?_
  refine Ev_istore dX10_sumNow_3 (Nat.le_of_ble_eq_true rfl) (okp_of rfl) ?_
  exact h
set_option maxHeartbeats 4000000 in
set_option maxRecDepth 100000 in
theorem X10_sumNow_at5_ok {d : Nat} {x1 : Int32} {x2 : Int32} {x3 : Int32} {x4 : Int32} {μ μ' : Mem} {x : Int32} (h : (((x1 + x2) ≤ x4 → (x = x3 ∧ μ' = μ)) ∧ (¬ (x1 + x2) ≤ x4 → vp_in x4 92 ∧ X10_sumNow_at5 d x1 x2 (x3 + (μ.1 33 x4.toNatClampNeg)) (x4 + 1) μ x μ'))) : X10_sumNow_at5 d x1 x2 x3 x4 μ x μ' := by
  refine Ev_iload dX10_sumNow_5 rfl ?_
  refine Ev_iload_n dX10_sumNow_7 rfl ?_
  refine Ev_iload_n dX10_sumNow_8 rfl ?_
  refine Ev_iadd dX10_sumNow_9 ?_
  refine Ev_icmp_ge 29 dX10_sumNow_10 (by decide) (fun q => ?_) (fun q => ?_)
  · have h := h.1 q
    refine Ev_iload_n dX10_sumNow_29 rfl ?_
    obtain ⟨rfl, rfl⟩ := h
    exact R_i rfl dX10_sumNow_30 rfl
  · have h := h.2 q
    refine Ev_iload_n dX10_sumNow_13 rfl ?_
    refine Ev_aload_n dX10_sumNow_14 rfl ?_
    refine Ev_getF 11 92 33 flX10_116 rfl dX10_sumNow_15 ?_
    refine Ev_iload dX10_sumNow_18 rfl ?_
    obtain ⟨g, h⟩ := h
    refine Ev_iald g dX10_sumNow_20 ?_
    refine Ev_iadd dX10_sumNow_21 ?_
    refine Ev_istore_n dX10_sumNow_22 (Nat.le_of_ble_eq_true rfl) (okp_of rfl) ?_
    refine Ev_iinc (x4 + 1) dX10_sumNow_23 rfl rfl (okp_of rfl) ?_
    refine Ev_goto 5 dX10_sumNow_26 (by decide) ?_
    exact h
set_option maxHeartbeats 4000000 in
set_option maxRecDepth 100000 in
theorem X10_tell_ok {d : Nat} {x1 : Int32} {x2 : Int32} {x3 : Int32} {μ μ' : Mem} {x : Int32} (h : (((μ.1 0 65) = 20 → (x = (-1) ∧ μ' = μ)) ∧ (¬ (μ.1 0 65) = 20 → (∃ (y3 : Int32) (μ1 : Mem), X10_isCell d x1 x2 μ y3 μ1 ∧ ((y3 = 0 → (x = (-1) ∧ μ' = μ1)) ∧ (¬ y3 = 0 → (∃ (y6 : Int32) (μ4 : Mem), X10_in d x3 0 999 μ1 y6 μ4 ∧ ((y6 ≠ 0 → vp_in (μ4.1 0 65) 20 ∧ (∀ μ7 : Mem, μ7 = sI μ4 41 ((μ4.1 0 65).toNatClampNeg) ((8 * x2) + x1) → vp_in (μ7.1 0 65) 20 ∧ (∀ μ8 : Mem, μ8 = sI μ7 42 ((μ7.1 0 65).toNatClampNeg) x3 → (∀ μ9 : Mem, μ9 = sI μ8 0 65 ((μ8.1 0 65) + 1) → (x = (μ9.1 0 65) - 1 ∧ μ' = μ9))))) ∧ (y6 = 0 → (x = (-1) ∧ μ' = μ4)))))))))) : X10_tell (d + 1) x1 x2 x3 μ x μ' := by
  refine Me_of [some (vr 10 0 0), some (vi x1), some (vi x2), some (vi x3)] rfl (Nat.le_of_ble_eq_true rfl) (by decide) ?_
  refine Ev_aload_n dX10_tell_0 rfl ?_
  refine Ev_getI flX10_268 rfl dX10_tell_1 ?_
  refine Ev_bipush 20 dX10_tell_4 (by decide) ?_
  refine Ev_icmp_eq 29 dX10_tell_6 (by decide) (fun q => ?_) (fun q => ?_)
  · have h := h.1 q
    refine Ev_iconst (-1) dX10_tell_29 (by decide) ?_
    obtain ⟨rfl, rfl⟩ := h
    exact R_i rfl dX10_tell_30 rfl
  · have h := h.2 q
    refine Ev_aload_n dX10_tell_9 rfl ?_
    refine Ev_iload_n dX10_tell_10 rfl ?_
    refine Ev_iload_n dX10_tell_11 rfl ?_
    obtain ⟨y3, μ1, hM2, h⟩ := h
    refine Ev_callV [_, _] mlX10_343 rfl rfl (Nat.le_of_ble_eq_true rfl) dX10_tell_12 hM2 ?_
    refine Ev_if_eq 29 dX10_tell_15 (by decide) (fun q => ?_) (fun q => ?_)
    · have h := h.1 q
      refine Ev_iconst (-1) dX10_tell_29 (by decide) ?_
      obtain ⟨rfl, rfl⟩ := h
      exact R_i rfl dX10_tell_30 rfl
    · have h := h.2 q
      refine Ev_iload_n dX10_tell_18 rfl ?_
      refine Ev_iconst 0 dX10_tell_19 (by decide) ?_
      refine Ev_sipush 999 dX10_tell_20 (by decide) ?_
      obtain ⟨y6, μ4, hM5, h⟩ := h
      refine Ev_callS [_, _, _] mlX10_323 rfl rfl (Nat.le_of_ble_eq_true rfl) dX10_tell_23 hM5 ?_
      refine Ev_if_ne 31 dX10_tell_26 (by decide) (fun q => ?_) (fun q => ?_)
      · have h := h.1 q
        refine Ev_aload_n dX10_tell_31 rfl ?_
        refine Ev_getF 11 20 41 flX10_140 rfl dX10_tell_32 ?_
        refine Ev_aload_n dX10_tell_35 rfl ?_
        refine Ev_getI flX10_268 rfl dX10_tell_36 ?_
        refine Ev_bipush 8 dX10_tell_39 (by decide) ?_
        refine Ev_iload_n dX10_tell_41 rfl ?_
        refine Ev_imul dX10_tell_42 ?_
        refine Ev_iload_n dX10_tell_43 rfl ?_
        refine Ev_iadd dX10_tell_44 ?_
        obtain ⟨g, h⟩ := h
        refine Ev_iast g dX10_tell_45 ?_
        have h := h _ rfl
        refine Ev_aload_n dX10_tell_46 rfl ?_
        refine Ev_getF 11 20 42 flX10_143 rfl dX10_tell_47 ?_
        refine Ev_aload_n dX10_tell_50 rfl ?_
        refine Ev_getI flX10_268 rfl dX10_tell_51 ?_
        refine Ev_iload_n dX10_tell_54 rfl ?_
        obtain ⟨g, h⟩ := h
        refine Ev_iast g dX10_tell_55 ?_
        have h := h _ rfl
        refine Ev_aload_n dX10_tell_56 rfl ?_
        refine Ev_dup dX10_tell_57 (fun _ z => by cases z) ?_
        refine Ev_getI flX10_268 rfl dX10_tell_58 ?_
        refine Ev_iconst 1 dX10_tell_61 (by decide) ?_
        refine Ev_iadd dX10_tell_62 ?_
        refine Ev_putI .int flX10_268 fpX10_65 rfl rfl rfl dX10_tell_63 ?_
        have h := h _ rfl
        refine Ev_aload_n dX10_tell_66 rfl ?_
        refine Ev_getI flX10_268 rfl dX10_tell_67 ?_
        refine Ev_iconst 1 dX10_tell_70 (by decide) ?_
        refine Ev_isub dX10_tell_71 ?_
        obtain ⟨rfl, rfl⟩ := h
        exact R_i rfl dX10_tell_72 rfl
      · have h := h.2 q
        refine Ev_iconst (-1) dX10_tell_29 (by decide) ?_
        obtain ⟨rfl, rfl⟩ := h
        exact R_i rfl dX10_tell_30 rfl
set_option maxHeartbeats 4000000 in
set_option maxRecDepth 100000 in
theorem X10_tellField_ok {d : Nat}  {μ μ' : Mem} (h : vp_in (μ.1 0 19) 2 ∧ (∃ (y3 : Int32) (μ1 : Mem), X10_named d μ y3 μ1 ∧ (∃ (y6 : Int32) (μ4 : Mem), X10_bounded d 0 99 μ1 y6 μ4 ∧ vp_in ((6 * (μ.1 0 19)) + (μ.1 12 ((μ.1 0 19).toNatClampNeg))) 12 ∧ (∀ μ7 : Mem, μ7 = sI μ4 13 (((6 * (μ.1 0 19)) + (μ.1 12 ((μ.1 0 19).toNatClampNeg))).toNatClampNeg) y6 → (∃ (y10 : Int32) (μ8 : Mem), X10_bounded d 0 999 μ7 y10 μ8 ∧ vp_in ((6 * (μ.1 0 19)) + (μ.1 12 ((μ.1 0 19).toNatClampNeg))) 12 ∧ (∀ μ11 : Mem, μ11 = sI μ8 14 (((6 * (μ.1 0 19)) + (μ.1 12 ((μ.1 0 19).toNatClampNeg))).toNatClampNeg) y10 → (∃ (μ12 : Mem), X10_ends d y3 μ11 μ12 ∧ (((μ12.1 0 13) ≠ 0 → μ' = μ12) ∧ ((μ12.1 0 13) = 0 → vp_in (μ12.1 0 19) 2 ∧ vp_in (μ12.1 0 19) 2 ∧ (∀ μ14 : Mem, μ14 = sI μ12 12 ((μ12.1 0 19).toNatClampNeg) ((μ12.1 12 ((μ12.1 0 19).toNatClampNeg)) + 1) → μ' = μ14)))))))))) : X10_tellField (d + 1) μ μ' := by
  refine Me_of [some (vr 10 0 0), none, none] rfl (Nat.le_of_ble_eq_true rfl) (by decide) ?_
  refine Ev_bipush 6 dX10_tellField_0 (by decide) ?_
  refine Ev_aload_n dX10_tellField_2 rfl ?_
  refine Ev_getI flX10_242 rfl dX10_tellField_3 ?_
  refine Ev_imul dX10_tellField_6 ?_
  refine Ev_aload_n dX10_tellField_7 rfl ?_
  refine Ev_getF 11 2 12 flX10_52 rfl dX10_tellField_8 ?_
  refine Ev_aload_n dX10_tellField_11 rfl ?_
  refine Ev_getI flX10_242 rfl dX10_tellField_12 ?_
  obtain ⟨g, h⟩ := h
  refine Ev_iald g dX10_tellField_15 ?_
  refine Ev_iadd dX10_tellField_16 ?_
  refine Ev_istore_n dX10_tellField_17 (Nat.le_of_ble_eq_true rfl) (okp_of rfl) ?_
  refine Ev_aload_n dX10_tellField_18 rfl ?_
  obtain ⟨y3, μ1, hM2, h⟩ := h
  refine Ev_callV [] mlX10_293 rfl rfl (Nat.le_of_ble_eq_true rfl) dX10_tellField_19 hM2 ?_
  refine Ev_istore_n dX10_tellField_22 (Nat.le_of_ble_eq_true rfl) (okp_of rfl) ?_
  refine Ev_aload_n dX10_tellField_23 rfl ?_
  refine Ev_getF 11 12 13 flX10_55 rfl dX10_tellField_24 ?_
  refine Ev_iload_n dX10_tellField_27 rfl ?_
  refine Ev_aload_n dX10_tellField_28 rfl ?_
  refine Ev_iconst 0 dX10_tellField_29 (by decide) ?_
  refine Ev_bipush 99 dX10_tellField_30 (by decide) ?_
  obtain ⟨y6, μ4, hM5, h⟩ := h
  refine Ev_callV [_, _] mlX10_283 rfl rfl (Nat.le_of_ble_eq_true rfl) dX10_tellField_32 hM5 ?_
  obtain ⟨g, h⟩ := h
  refine Ev_iast g dX10_tellField_35 ?_
  have h := h _ rfl
  refine Ev_aload_n dX10_tellField_36 rfl ?_
  refine Ev_getF 11 12 14 flX10_58 rfl dX10_tellField_37 ?_
  refine Ev_iload_n dX10_tellField_40 rfl ?_
  refine Ev_aload_n dX10_tellField_41 rfl ?_
  refine Ev_iconst 0 dX10_tellField_42 (by decide) ?_
  refine Ev_sipush 999 dX10_tellField_43 (by decide) ?_
  obtain ⟨y10, μ8, hM9, h⟩ := h
  refine Ev_callV [_, _] mlX10_283 rfl rfl (Nat.le_of_ble_eq_true rfl) dX10_tellField_46 hM9 ?_
  obtain ⟨g, h⟩ := h
  refine Ev_iast g dX10_tellField_49 ?_
  have h := h _ rfl
  refine Ev_aload_n dX10_tellField_50 rfl ?_
  refine Ev_iload_n dX10_tellField_51 rfl ?_
  obtain ⟨μ12, hM13, h⟩ := h
  refine Ev_callV [_] mlX10_297 rfl rfl (Nat.le_of_ble_eq_true rfl) dX10_tellField_52 hM13 ?_
  refine Ev_aload_n dX10_tellField_55 rfl ?_
  refine Ev_getI flX10_209 rfl dX10_tellField_56 ?_
  refine Ev_if_ne 75 dX10_tellField_59 (by decide) (fun q => ?_) (fun q => ?_)
  · have h := h.1 q
    subst h
    exact R_v rfl dX10_tellField_75
  · have h := h.2 q
    refine Ev_aload_n dX10_tellField_62 rfl ?_
    refine Ev_getF 11 2 12 flX10_52 rfl dX10_tellField_63 ?_
    refine Ev_aload_n dX10_tellField_66 rfl ?_
    refine Ev_getI flX10_242 rfl dX10_tellField_67 ?_
    refine Ev_dup2 dX10_tellField_70 ?_
    obtain ⟨g, h⟩ := h
    refine Ev_iald g dX10_tellField_71 ?_
    refine Ev_iconst 1 dX10_tellField_72 (by decide) ?_
    refine Ev_iadd dX10_tellField_73 ?_
    obtain ⟨g, h⟩ := h
    refine Ev_iast g dX10_tellField_74 ?_
    have h := h _ rfl
    subst h
    exact R_v rfl dX10_tellField_75
set_option maxHeartbeats 4000000 in
set_option maxRecDepth 100000 in
theorem X10_tellLaw_ok {d : Nat} {x1 : Int32} {μ μ' : Mem} (h : (∃ (μ1 : Mem), X10_must d 5 μ μ1 ∧ X10_tellLaw_at12 d x1 (μ1.1 0 36) 0 μ1 μ')) : X10_tellLaw (d + 1) x1 μ μ' := by
  refine Me_of [some (vr 10 0 0), some (vi x1), none, none] rfl (Nat.le_of_ble_eq_true rfl) (by decide) ?_
  refine Ev_aload_n dX10_tellLaw_0 rfl ?_
  refine Ev_iconst 5 dX10_tellLaw_1 (by decide) ?_
  obtain ⟨μ1, hM2, h⟩ := h
  refine Ev_callV [_] mlX10_287 rfl rfl (Nat.le_of_ble_eq_true rfl) dX10_tellLaw_2 hM2 ?_
  refine Ev_aload_n dX10_tellLaw_5 rfl ?_
  refine Ev_getI flX10_248 rfl dX10_tellLaw_6 ?_
  refine Ev_istore_n dX10_tellLaw_9 (Nat.le_of_ble_eq_true rfl) (okp_of rfl) ?_
  refine Ev_iconst 0 dX10_tellLaw_10 (by decide) ?_
  refine Ev_istore_n dX10_tellLaw_11 (Nat.le_of_ble_eq_true rfl) (okp_of rfl) ?_
  exact h
set_option maxHeartbeats 4000000 in
set_option maxRecDepth 100000 in
theorem X10_tellLaw_at12_ok {d : Nat} {x1 : Int32} {x2 : Int32} {x3 : Int32} {μ μ' : Mem} (h : (((μ.1 0 13) ≠ 0 → vp_in (μ.1 0 36) 260 ∧ (∀ μ1 : Mem, μ1 = sI μ 23 ((μ.1 0 36).toNatClampNeg) (vp_nar .boolean 0) → (∃ (μ2 : Mem), X10_term d μ1 μ2 ∧ (∃ (μ4 : Mem), X10_must d 4 μ2 μ4 ∧ (((μ4.1 0 13) ≤ 0 → vp_in ((3 * (μ4.1 0 19)) + x1) 6 ∧ (∀ μ6 : Mem, μ6 = sI μ4 21 (((3 * (μ4.1 0 19)) + x1).toNatClampNeg) x2 → vp_in ((3 * (μ6.1 0 19)) + x1) 6 ∧ (∀ μ7 : Mem, μ7 = sI μ6 22 (((3 * (μ6.1 0 19)) + x1).toNatClampNeg) (μ6.1 0 36) → μ' = μ7))) ∧ (¬ (μ4.1 0 13) ≤ 0 → μ' = μ4)))))) ∧ ((μ.1 0 13) = 0 → (∃ (y10 : Int32) (μ8 : Mem), X10_is d 29 μ y10 μ8 ∧ ((y10 = 0 → vp_in (μ8.1 0 36) 260 ∧ (∀ μ11 : Mem, μ11 = sI μ8 23 ((μ8.1 0 36).toNatClampNeg) (vp_nar .boolean 0) → (∃ (μ12 : Mem), X10_term d μ11 μ12 ∧ (∃ (μ14 : Mem), X10_must d 4 μ12 μ14 ∧ (((μ14.1 0 13) ≤ 0 → vp_in ((3 * (μ14.1 0 19)) + x1) 6 ∧ (∀ μ16 : Mem, μ16 = sI μ14 21 (((3 * (μ14.1 0 19)) + x1).toNatClampNeg) x2 → vp_in ((3 * (μ16.1 0 19)) + x1) 6 ∧ (∀ μ17 : Mem, μ17 = sI μ16 22 (((3 * (μ16.1 0 19)) + x1).toNatClampNeg) (μ16.1 0 36) → μ' = μ17))) ∧ (¬ (μ14.1 0 13) ≤ 0 → μ' = μ14)))))) ∧ (¬ y10 = 0 → ((x3 ≠ 4 → (((μ8.1 0 13) ≤ 0 → (∃ (μ18 : Mem), X10_goesOn d μ8 μ18 ∧ vp_in (μ18.1 0 36) 260 ∧ (∀ μ20 : Mem, μ20 = sI μ18 23 ((μ18.1 0 36).toNatClampNeg) (vp_nar .boolean 1) → vp_in (μ20.1 0 36) 260 ∧ (∀ μ21 : Mem, μ21 = sI μ20 24 ((μ20.1 0 36).toNatClampNeg) (μ20.1 0 42) → (∃ (μ22 : Mem), X10_expression d μ21 μ22 ∧ (∃ (μ24 : Mem), X10_must d 13 μ22 μ24 ∧ vp_in (μ24.1 0 36) 260 ∧ (∀ μ26 : Mem, μ26 = sI μ24 25 ((μ24.1 0 36).toNatClampNeg) (μ24.1 0 42) → (((μ26.1 0 13) ≠ 0 → (∃ (μ27 : Mem), X10_must d 30 μ26 μ27 ∧ (∃ (μ29 : Mem), X10_term d μ27 μ29 ∧ (∃ (μ31 : Mem), X10_must d 31 μ29 μ31 ∧ X10_tellLaw_at12 d x1 x2 (x3 + 1) μ31 μ')))) ∧ ((μ26.1 0 13) = 0 → (∃ (μ33 : Mem), X10_expression d μ26 μ33 ∧ (∃ (μ35 : Mem), X10_must d 30 μ33 μ35 ∧ (∃ (μ37 : Mem), X10_term d μ35 μ37 ∧ (∃ (μ39 : Mem), X10_must d 31 μ37 μ39 ∧ X10_tellLaw_at12 d x1 x2 (x3 + 1) μ39 μ'))))))))))))) ∧ (¬ (μ8.1 0 13) ≤ 0 → μ' = μ8))) ∧ (x3 = 4 → (∃ (μ41 : Mem), X10_fail d 2 μ8 μ41 ∧ (((μ41.1 0 13) ≤ 0 → (∃ (μ43 : Mem), X10_goesOn d μ41 μ43 ∧ vp_in (μ43.1 0 36) 260 ∧ (∀ μ45 : Mem, μ45 = sI μ43 23 ((μ43.1 0 36).toNatClampNeg) (vp_nar .boolean 1) → vp_in (μ45.1 0 36) 260 ∧ (∀ μ46 : Mem, μ46 = sI μ45 24 ((μ45.1 0 36).toNatClampNeg) (μ45.1 0 42) → (∃ (μ47 : Mem), X10_expression d μ46 μ47 ∧ (∃ (μ49 : Mem), X10_must d 13 μ47 μ49 ∧ vp_in (μ49.1 0 36) 260 ∧ (∀ μ51 : Mem, μ51 = sI μ49 25 ((μ49.1 0 36).toNatClampNeg) (μ49.1 0 42) → (((μ51.1 0 13) ≠ 0 → (∃ (μ52 : Mem), X10_must d 30 μ51 μ52 ∧ (∃ (μ54 : Mem), X10_term d μ52 μ54 ∧ (∃ (μ56 : Mem), X10_must d 31 μ54 μ56 ∧ X10_tellLaw_at12 d x1 x2 (x3 + 1) μ56 μ')))) ∧ ((μ51.1 0 13) = 0 → (∃ (μ58 : Mem), X10_expression d μ51 μ58 ∧ (∃ (μ60 : Mem), X10_must d 30 μ58 μ60 ∧ (∃ (μ62 : Mem), X10_term d μ60 μ62 ∧ (∃ (μ64 : Mem), X10_must d 31 μ62 μ64 ∧ X10_tellLaw_at12 d x1 x2 (x3 + 1) μ64 μ'))))))))))))) ∧ (¬ (μ41.1 0 13) ≤ 0 → μ' = μ41))))))))))) : X10_tellLaw_at12 d x1 x2 x3 μ μ' := by
  refine Ev_aload_n dX10_tellLaw_12 rfl ?_
  refine Ev_getI flX10_209 rfl dX10_tellLaw_13 ?_
  refine Ev_if_ne 129 dX10_tellLaw_16 (by decide) (fun q => ?_) (fun q => ?_)
  · have h := h.1 q
    refine Ev_aload_n dX10_tellLaw_129 rfl ?_
    refine Ev_getF 14 260 23 flX10_85 rfl dX10_tellLaw_130 ?_
    refine Ev_aload_n dX10_tellLaw_133 rfl ?_
    refine Ev_getI flX10_248 rfl dX10_tellLaw_134 ?_
    refine Ev_iconst 0 dX10_tellLaw_137 (by decide) ?_
    obtain ⟨g, h⟩ := h
    refine Ev_zast g dX10_tellLaw_138 ?_
    have h := h _ rfl
    refine Ev_aload_n dX10_tellLaw_139 rfl ?_
    obtain ⟨μ2, hM3, h⟩ := h
    refine Ev_callV [] mlX10_303 rfl rfl (Nat.le_of_ble_eq_true rfl) dX10_tellLaw_140 hM3 ?_
    refine Ev_aload_n dX10_tellLaw_143 rfl ?_
    refine Ev_iconst 4 dX10_tellLaw_144 (by decide) ?_
    obtain ⟨μ4, hM5, h⟩ := h
    refine Ev_callV [_] mlX10_287 rfl rfl (Nat.le_of_ble_eq_true rfl) dX10_tellLaw_145 hM5 ?_
    refine Ev_aload_n dX10_tellLaw_148 rfl ?_
    refine Ev_getI flX10_209 rfl dX10_tellLaw_149 ?_
    refine Ev_if_le 156 dX10_tellLaw_152 (by decide) (fun q => ?_) (fun q => ?_)
    · have h := h.1 q
      refine Ev_aload_n dX10_tellLaw_156 rfl ?_
      refine Ev_getF 11 6 21 flX10_79 rfl dX10_tellLaw_157 ?_
      refine Ev_iconst 3 dX10_tellLaw_160 (by decide) ?_
      refine Ev_aload_n dX10_tellLaw_161 rfl ?_
      refine Ev_getI flX10_242 rfl dX10_tellLaw_162 ?_
      refine Ev_imul dX10_tellLaw_165 ?_
      refine Ev_iload_n dX10_tellLaw_166 rfl ?_
      refine Ev_iadd dX10_tellLaw_167 ?_
      refine Ev_iload_n dX10_tellLaw_168 rfl ?_
      obtain ⟨g, h⟩ := h
      refine Ev_iast g dX10_tellLaw_169 ?_
      have h := h _ rfl
      refine Ev_aload_n dX10_tellLaw_170 rfl ?_
      refine Ev_getF 11 6 22 flX10_82 rfl dX10_tellLaw_171 ?_
      refine Ev_iconst 3 dX10_tellLaw_174 (by decide) ?_
      refine Ev_aload_n dX10_tellLaw_175 rfl ?_
      refine Ev_getI flX10_242 rfl dX10_tellLaw_176 ?_
      refine Ev_imul dX10_tellLaw_179 ?_
      refine Ev_iload_n dX10_tellLaw_180 rfl ?_
      refine Ev_iadd dX10_tellLaw_181 ?_
      refine Ev_aload_n dX10_tellLaw_182 rfl ?_
      refine Ev_getI flX10_248 rfl dX10_tellLaw_183 ?_
      obtain ⟨g, h⟩ := h
      refine Ev_iast g dX10_tellLaw_186 ?_
      have h := h _ rfl
      subst h
      exact R_v rfl dX10_tellLaw_187
    · have h := h.2 q
      subst h
      exact R_v rfl dX10_tellLaw_155
  · have h := h.2 q
    refine Ev_aload_n dX10_tellLaw_19 rfl ?_
    refine Ev_bipush 29 dX10_tellLaw_20 (by decide) ?_
    obtain ⟨y10, μ8, hM9, h⟩ := h
    refine Ev_callV [_] mlX10_227 rfl rfl (Nat.le_of_ble_eq_true rfl) dX10_tellLaw_22 hM9 ?_
    refine Ev_if_eq 129 dX10_tellLaw_25 (by decide) (fun q => ?_) (fun q => ?_)
    · have h := h.1 q
      refine Ev_aload_n dX10_tellLaw_129 rfl ?_
      refine Ev_getF 14 260 23 flX10_85 rfl dX10_tellLaw_130 ?_
      refine Ev_aload_n dX10_tellLaw_133 rfl ?_
      refine Ev_getI flX10_248 rfl dX10_tellLaw_134 ?_
      refine Ev_iconst 0 dX10_tellLaw_137 (by decide) ?_
      obtain ⟨g, h⟩ := h
      refine Ev_zast g dX10_tellLaw_138 ?_
      have h := h _ rfl
      refine Ev_aload_n dX10_tellLaw_139 rfl ?_
      obtain ⟨μ12, hM13, h⟩ := h
      refine Ev_callV [] mlX10_303 rfl rfl (Nat.le_of_ble_eq_true rfl) dX10_tellLaw_140 hM13 ?_
      refine Ev_aload_n dX10_tellLaw_143 rfl ?_
      refine Ev_iconst 4 dX10_tellLaw_144 (by decide) ?_
      obtain ⟨μ14, hM15, h⟩ := h
      refine Ev_callV [_] mlX10_287 rfl rfl (Nat.le_of_ble_eq_true rfl) dX10_tellLaw_145 hM15 ?_
      refine Ev_aload_n dX10_tellLaw_148 rfl ?_
      refine Ev_getI flX10_209 rfl dX10_tellLaw_149 ?_
      refine Ev_if_le 156 dX10_tellLaw_152 (by decide) (fun q => ?_) (fun q => ?_)
      · have h := h.1 q
        refine Ev_aload_n dX10_tellLaw_156 rfl ?_
        refine Ev_getF 11 6 21 flX10_79 rfl dX10_tellLaw_157 ?_
        refine Ev_iconst 3 dX10_tellLaw_160 (by decide) ?_
        refine Ev_aload_n dX10_tellLaw_161 rfl ?_
        refine Ev_getI flX10_242 rfl dX10_tellLaw_162 ?_
        refine Ev_imul dX10_tellLaw_165 ?_
        refine Ev_iload_n dX10_tellLaw_166 rfl ?_
        refine Ev_iadd dX10_tellLaw_167 ?_
        refine Ev_iload_n dX10_tellLaw_168 rfl ?_
        obtain ⟨g, h⟩ := h
        refine Ev_iast g dX10_tellLaw_169 ?_
        have h := h _ rfl
        refine Ev_aload_n dX10_tellLaw_170 rfl ?_
        refine Ev_getF 11 6 22 flX10_82 rfl dX10_tellLaw_171 ?_
        refine Ev_iconst 3 dX10_tellLaw_174 (by decide) ?_
        refine Ev_aload_n dX10_tellLaw_175 rfl ?_
        refine Ev_getI flX10_242 rfl dX10_tellLaw_176 ?_
        refine Ev_imul dX10_tellLaw_179 ?_
        refine Ev_iload_n dX10_tellLaw_180 rfl ?_
        refine Ev_iadd dX10_tellLaw_181 ?_
        refine Ev_aload_n dX10_tellLaw_182 rfl ?_
        refine Ev_getI flX10_248 rfl dX10_tellLaw_183 ?_
        obtain ⟨g, h⟩ := h
        refine Ev_iast g dX10_tellLaw_186 ?_
        have h := h _ rfl
        subst h
        exact R_v rfl dX10_tellLaw_187
      · have h := h.2 q
        subst h
        exact R_v rfl dX10_tellLaw_155
    · have h := h.2 q
      refine Ev_iload_n dX10_tellLaw_28 rfl ?_
      refine Ev_iconst 4 dX10_tellLaw_29 (by decide) ?_
      refine Ev_icmp_ne 38 dX10_tellLaw_30 (by decide) (fun q => ?_) (fun q => ?_)
      · have h := h.1 q
        refine Ev_aload_n dX10_tellLaw_38 rfl ?_
        refine Ev_getI flX10_209 rfl dX10_tellLaw_39 ?_
        refine Ev_if_le 46 dX10_tellLaw_42 (by decide) (fun q => ?_) (fun q => ?_)
        · have h := h.1 q
          refine Ev_iinc (x3 + 1) dX10_tellLaw_46 rfl rfl (okp_of rfl) ?_
          refine Ev_aload_n dX10_tellLaw_49 rfl ?_
          obtain ⟨μ18, hM19, h⟩ := h
          refine Ev_callV [] mlX10_230 rfl rfl (Nat.le_of_ble_eq_true rfl) dX10_tellLaw_50 hM19 ?_
          refine Ev_aload_n dX10_tellLaw_53 rfl ?_
          refine Ev_getF 14 260 23 flX10_85 rfl dX10_tellLaw_54 ?_
          refine Ev_aload_n dX10_tellLaw_57 rfl ?_
          refine Ev_getI flX10_248 rfl dX10_tellLaw_58 ?_
          refine Ev_iconst 1 dX10_tellLaw_61 (by decide) ?_
          obtain ⟨g, h⟩ := h
          refine Ev_zast g dX10_tellLaw_62 ?_
          have h := h _ rfl
          refine Ev_aload_n dX10_tellLaw_63 rfl ?_
          refine Ev_getF 11 260 24 flX10_89 rfl dX10_tellLaw_64 ?_
          refine Ev_aload_n dX10_tellLaw_67 rfl ?_
          refine Ev_getI flX10_248 rfl dX10_tellLaw_68 ?_
          refine Ev_aload_n dX10_tellLaw_71 rfl ?_
          refine Ev_getI flX10_251 rfl dX10_tellLaw_72 ?_
          obtain ⟨g, h⟩ := h
          refine Ev_iast g dX10_tellLaw_75 ?_
          have h := h _ rfl
          refine Ev_aload_n dX10_tellLaw_76 rfl ?_
          obtain ⟨μ22, hM23, h⟩ := h
          refine Ev_callV [] mlX10_300 rfl rfl (Nat.le_of_ble_eq_true rfl) dX10_tellLaw_77 hM23 ?_
          refine Ev_aload_n dX10_tellLaw_80 rfl ?_
          refine Ev_bipush 13 dX10_tellLaw_81 (by decide) ?_
          obtain ⟨μ24, hM25, h⟩ := h
          refine Ev_callV [_] mlX10_287 rfl rfl (Nat.le_of_ble_eq_true rfl) dX10_tellLaw_83 hM25 ?_
          refine Ev_aload_n dX10_tellLaw_86 rfl ?_
          refine Ev_getF 11 260 25 flX10_92 rfl dX10_tellLaw_87 ?_
          refine Ev_aload_n dX10_tellLaw_90 rfl ?_
          refine Ev_getI flX10_248 rfl dX10_tellLaw_91 ?_
          refine Ev_aload_n dX10_tellLaw_94 rfl ?_
          refine Ev_getI flX10_251 rfl dX10_tellLaw_95 ?_
          obtain ⟨g, h⟩ := h
          refine Ev_iast g dX10_tellLaw_98 ?_
          have h := h _ rfl
          refine Ev_aload_n dX10_tellLaw_99 rfl ?_
          refine Ev_getI flX10_209 rfl dX10_tellLaw_100 ?_
          refine Ev_if_ne 110 dX10_tellLaw_103 (by decide) (fun q => ?_) (fun q => ?_)
          · have h := h.1 q
            refine Ev_aload_n dX10_tellLaw_110 rfl ?_
            refine Ev_bipush 30 dX10_tellLaw_111 (by decide) ?_
            obtain ⟨μ27, hM28, h⟩ := h
            refine Ev_callV [_] mlX10_287 rfl rfl (Nat.le_of_ble_eq_true rfl) dX10_tellLaw_113 hM28 ?_
            refine Ev_aload_n dX10_tellLaw_116 rfl ?_
            obtain ⟨μ29, hM30, h⟩ := h
            refine Ev_callV [] mlX10_303 rfl rfl (Nat.le_of_ble_eq_true rfl) dX10_tellLaw_117 hM30 ?_
            refine Ev_aload_n dX10_tellLaw_120 rfl ?_
            refine Ev_bipush 31 dX10_tellLaw_121 (by decide) ?_
            obtain ⟨μ31, hM32, h⟩ := h
            refine Ev_callV [_] mlX10_287 rfl rfl (Nat.le_of_ble_eq_true rfl) dX10_tellLaw_123 hM32 ?_
            refine Ev_goto 12 dX10_tellLaw_126 (by decide) ?_
            exact h
          · have h := h.2 q
            refine Ev_aload_n dX10_tellLaw_106 rfl ?_
            obtain ⟨μ33, hM34, h⟩ := h
            refine Ev_callV [] mlX10_300 rfl rfl (Nat.le_of_ble_eq_true rfl) dX10_tellLaw_107 hM34 ?_
            refine Ev_aload_n dX10_tellLaw_110 rfl ?_
            refine Ev_bipush 30 dX10_tellLaw_111 (by decide) ?_
            obtain ⟨μ35, hM36, h⟩ := h
            refine Ev_callV [_] mlX10_287 rfl rfl (Nat.le_of_ble_eq_true rfl) dX10_tellLaw_113 hM36 ?_
            refine Ev_aload_n dX10_tellLaw_116 rfl ?_
            obtain ⟨μ37, hM38, h⟩ := h
            refine Ev_callV [] mlX10_303 rfl rfl (Nat.le_of_ble_eq_true rfl) dX10_tellLaw_117 hM38 ?_
            refine Ev_aload_n dX10_tellLaw_120 rfl ?_
            refine Ev_bipush 31 dX10_tellLaw_121 (by decide) ?_
            obtain ⟨μ39, hM40, h⟩ := h
            refine Ev_callV [_] mlX10_287 rfl rfl (Nat.le_of_ble_eq_true rfl) dX10_tellLaw_123 hM40 ?_
            refine Ev_goto 12 dX10_tellLaw_126 (by decide) ?_
            exact h
        · have h := h.2 q
          subst h
          exact R_v rfl dX10_tellLaw_45
      · have h := h.2 q
        refine Ev_aload_n dX10_tellLaw_33 rfl ?_
        refine Ev_iconst 2 dX10_tellLaw_34 (by decide) ?_
        obtain ⟨μ41, hM42, h⟩ := h
        refine Ev_callV [_] mlX10_224 rfl rfl (Nat.le_of_ble_eq_true rfl) dX10_tellLaw_35 hM42 ?_
        refine Ev_aload_n dX10_tellLaw_38 rfl ?_
        refine Ev_getI flX10_209 rfl dX10_tellLaw_39 ?_
        refine Ev_if_le 46 dX10_tellLaw_42 (by decide) (fun q => ?_) (fun q => ?_)
        · have h := h.1 q
          refine Ev_iinc (x3 + 1) dX10_tellLaw_46 rfl rfl (okp_of rfl) ?_
          refine Ev_aload_n dX10_tellLaw_49 rfl ?_
          obtain ⟨μ43, hM44, h⟩ := h
          refine Ev_callV [] mlX10_230 rfl rfl (Nat.le_of_ble_eq_true rfl) dX10_tellLaw_50 hM44 ?_
          refine Ev_aload_n dX10_tellLaw_53 rfl ?_
          refine Ev_getF 14 260 23 flX10_85 rfl dX10_tellLaw_54 ?_
          refine Ev_aload_n dX10_tellLaw_57 rfl ?_
          refine Ev_getI flX10_248 rfl dX10_tellLaw_58 ?_
          refine Ev_iconst 1 dX10_tellLaw_61 (by decide) ?_
          obtain ⟨g, h⟩ := h
          refine Ev_zast g dX10_tellLaw_62 ?_
          have h := h _ rfl
          refine Ev_aload_n dX10_tellLaw_63 rfl ?_
          refine Ev_getF 11 260 24 flX10_89 rfl dX10_tellLaw_64 ?_
          refine Ev_aload_n dX10_tellLaw_67 rfl ?_
          refine Ev_getI flX10_248 rfl dX10_tellLaw_68 ?_
          refine Ev_aload_n dX10_tellLaw_71 rfl ?_
          refine Ev_getI flX10_251 rfl dX10_tellLaw_72 ?_
          obtain ⟨g, h⟩ := h
          refine Ev_iast g dX10_tellLaw_75 ?_
          have h := h _ rfl
          refine Ev_aload_n dX10_tellLaw_76 rfl ?_
          obtain ⟨μ47, hM48, h⟩ := h
          refine Ev_callV [] mlX10_300 rfl rfl (Nat.le_of_ble_eq_true rfl) dX10_tellLaw_77 hM48 ?_
          refine Ev_aload_n dX10_tellLaw_80 rfl ?_
          refine Ev_bipush 13 dX10_tellLaw_81 (by decide) ?_
          obtain ⟨μ49, hM50, h⟩ := h
          refine Ev_callV [_] mlX10_287 rfl rfl (Nat.le_of_ble_eq_true rfl) dX10_tellLaw_83 hM50 ?_
          refine Ev_aload_n dX10_tellLaw_86 rfl ?_
          refine Ev_getF 11 260 25 flX10_92 rfl dX10_tellLaw_87 ?_
          refine Ev_aload_n dX10_tellLaw_90 rfl ?_
          refine Ev_getI flX10_248 rfl dX10_tellLaw_91 ?_
          refine Ev_aload_n dX10_tellLaw_94 rfl ?_
          refine Ev_getI flX10_251 rfl dX10_tellLaw_95 ?_
          obtain ⟨g, h⟩ := h
          refine Ev_iast g dX10_tellLaw_98 ?_
          have h := h _ rfl
          refine Ev_aload_n dX10_tellLaw_99 rfl ?_
          refine Ev_getI flX10_209 rfl dX10_tellLaw_100 ?_
          refine Ev_if_ne 110 dX10_tellLaw_103 (by decide) (fun q => ?_) (fun q => ?_)
          · have h := h.1 q
            refine Ev_aload_n dX10_tellLaw_110 rfl ?_
            refine Ev_bipush 30 dX10_tellLaw_111 (by decide) ?_
            obtain ⟨μ52, hM53, h⟩ := h
            refine Ev_callV [_] mlX10_287 rfl rfl (Nat.le_of_ble_eq_true rfl) dX10_tellLaw_113 hM53 ?_
            refine Ev_aload_n dX10_tellLaw_116 rfl ?_
            obtain ⟨μ54, hM55, h⟩ := h
            refine Ev_callV [] mlX10_303 rfl rfl (Nat.le_of_ble_eq_true rfl) dX10_tellLaw_117 hM55 ?_
            refine Ev_aload_n dX10_tellLaw_120 rfl ?_
            refine Ev_bipush 31 dX10_tellLaw_121 (by decide) ?_
            obtain ⟨μ56, hM57, h⟩ := h
            refine Ev_callV [_] mlX10_287 rfl rfl (Nat.le_of_ble_eq_true rfl) dX10_tellLaw_123 hM57 ?_
            refine Ev_goto 12 dX10_tellLaw_126 (by decide) ?_
            exact h
          · have h := h.2 q
            refine Ev_aload_n dX10_tellLaw_106 rfl ?_
            obtain ⟨μ58, hM59, h⟩ := h
            refine Ev_callV [] mlX10_300 rfl rfl (Nat.le_of_ble_eq_true rfl) dX10_tellLaw_107 hM59 ?_
            refine Ev_aload_n dX10_tellLaw_110 rfl ?_
            refine Ev_bipush 30 dX10_tellLaw_111 (by decide) ?_
            obtain ⟨μ60, hM61, h⟩ := h
            refine Ev_callV [_] mlX10_287 rfl rfl (Nat.le_of_ble_eq_true rfl) dX10_tellLaw_113 hM61 ?_
            refine Ev_aload_n dX10_tellLaw_116 rfl ?_
            obtain ⟨μ62, hM63, h⟩ := h
            refine Ev_callV [] mlX10_303 rfl rfl (Nat.le_of_ble_eq_true rfl) dX10_tellLaw_117 hM63 ?_
            refine Ev_aload_n dX10_tellLaw_120 rfl ?_
            refine Ev_bipush 31 dX10_tellLaw_121 (by decide) ?_
            obtain ⟨μ64, hM65, h⟩ := h
            refine Ev_callV [_] mlX10_287 rfl rfl (Nat.le_of_ble_eq_true rfl) dX10_tellLaw_123 hM65 ?_
            refine Ev_goto 12 dX10_tellLaw_126 (by decide) ?_
            exact h
        · have h := h.2 q
          subst h
          exact R_v rfl dX10_tellLaw_45
set_option maxHeartbeats 4000000 in
set_option maxRecDepth 100000 in
theorem X10_tellLoom_ok {d : Nat}  {μ μ' : Mem} (h : vp_in (μ.1 0 19) 2 ∧ (∃ (y3 : Int32) (μ1 : Mem), X10_named d μ y3 μ1 ∧ (∃ (y6 : Int32) (μ4 : Mem), X10_bounded d 1 8 μ1 y6 μ4 ∧ vp_in ((4 * (μ.1 0 19)) + (μ.1 15 ((μ.1 0 19).toNatClampNeg))) 8 ∧ (∀ μ7 : Mem, μ7 = sI μ4 16 (((4 * (μ.1 0 19)) + (μ.1 15 ((μ.1 0 19).toNatClampNeg))).toNatClampNeg) y6 → (∃ (y10 : Int32) (μ8 : Mem), X10_bounded d 0 99 μ7 y10 μ8 ∧ vp_in ((4 * (μ.1 0 19)) + (μ.1 15 ((μ.1 0 19).toNatClampNeg))) 8 ∧ (∀ μ11 : Mem, μ11 = sI μ8 17 (((4 * (μ.1 0 19)) + (μ.1 15 ((μ.1 0 19).toNatClampNeg))).toNatClampNeg) y10 → (∃ (μ12 : Mem), X10_ends d y3 μ11 μ12 ∧ (((μ12.1 0 13) ≠ 0 → μ' = μ12) ∧ ((μ12.1 0 13) = 0 → vp_in (μ12.1 0 19) 2 ∧ vp_in (μ12.1 0 19) 2 ∧ (∀ μ14 : Mem, μ14 = sI μ12 15 ((μ12.1 0 19).toNatClampNeg) ((μ12.1 15 ((μ12.1 0 19).toNatClampNeg)) + 1) → μ' = μ14)))))))))) : X10_tellLoom (d + 1) μ μ' := by
  refine Me_of [some (vr 10 0 0), none, none] rfl (Nat.le_of_ble_eq_true rfl) (by decide) ?_
  refine Ev_iconst 4 dX10_tellLoom_0 (by decide) ?_
  refine Ev_aload_n dX10_tellLoom_1 rfl ?_
  refine Ev_getI flX10_242 rfl dX10_tellLoom_2 ?_
  refine Ev_imul dX10_tellLoom_5 ?_
  refine Ev_aload_n dX10_tellLoom_6 rfl ?_
  refine Ev_getF 11 2 15 flX10_61 rfl dX10_tellLoom_7 ?_
  refine Ev_aload_n dX10_tellLoom_10 rfl ?_
  refine Ev_getI flX10_242 rfl dX10_tellLoom_11 ?_
  obtain ⟨g, h⟩ := h
  refine Ev_iald g dX10_tellLoom_14 ?_
  refine Ev_iadd dX10_tellLoom_15 ?_
  refine Ev_istore_n dX10_tellLoom_16 (Nat.le_of_ble_eq_true rfl) (okp_of rfl) ?_
  refine Ev_aload_n dX10_tellLoom_17 rfl ?_
  obtain ⟨y3, μ1, hM2, h⟩ := h
  refine Ev_callV [] mlX10_293 rfl rfl (Nat.le_of_ble_eq_true rfl) dX10_tellLoom_18 hM2 ?_
  refine Ev_istore_n dX10_tellLoom_21 (Nat.le_of_ble_eq_true rfl) (okp_of rfl) ?_
  refine Ev_aload_n dX10_tellLoom_22 rfl ?_
  refine Ev_getF 11 8 16 flX10_64 rfl dX10_tellLoom_23 ?_
  refine Ev_iload_n dX10_tellLoom_26 rfl ?_
  refine Ev_aload_n dX10_tellLoom_27 rfl ?_
  refine Ev_iconst 1 dX10_tellLoom_28 (by decide) ?_
  refine Ev_bipush 8 dX10_tellLoom_29 (by decide) ?_
  obtain ⟨y6, μ4, hM5, h⟩ := h
  refine Ev_callV [_, _] mlX10_283 rfl rfl (Nat.le_of_ble_eq_true rfl) dX10_tellLoom_31 hM5 ?_
  obtain ⟨g, h⟩ := h
  refine Ev_iast g dX10_tellLoom_34 ?_
  have h := h _ rfl
  refine Ev_aload_n dX10_tellLoom_35 rfl ?_
  refine Ev_getF 11 8 17 flX10_67 rfl dX10_tellLoom_36 ?_
  refine Ev_iload_n dX10_tellLoom_39 rfl ?_
  refine Ev_aload_n dX10_tellLoom_40 rfl ?_
  refine Ev_iconst 0 dX10_tellLoom_41 (by decide) ?_
  refine Ev_bipush 99 dX10_tellLoom_42 (by decide) ?_
  obtain ⟨y10, μ8, hM9, h⟩ := h
  refine Ev_callV [_, _] mlX10_283 rfl rfl (Nat.le_of_ble_eq_true rfl) dX10_tellLoom_44 hM9 ?_
  obtain ⟨g, h⟩ := h
  refine Ev_iast g dX10_tellLoom_47 ?_
  have h := h _ rfl
  refine Ev_aload_n dX10_tellLoom_48 rfl ?_
  refine Ev_iload_n dX10_tellLoom_49 rfl ?_
  obtain ⟨μ12, hM13, h⟩ := h
  refine Ev_callV [_] mlX10_297 rfl rfl (Nat.le_of_ble_eq_true rfl) dX10_tellLoom_50 hM13 ?_
  refine Ev_aload_n dX10_tellLoom_53 rfl ?_
  refine Ev_getI flX10_209 rfl dX10_tellLoom_54 ?_
  refine Ev_if_ne 73 dX10_tellLoom_57 (by decide) (fun q => ?_) (fun q => ?_)
  · have h := h.1 q
    subst h
    exact R_v rfl dX10_tellLoom_73
  · have h := h.2 q
    refine Ev_aload_n dX10_tellLoom_60 rfl ?_
    refine Ev_getF 11 2 15 flX10_61 rfl dX10_tellLoom_61 ?_
    refine Ev_aload_n dX10_tellLoom_64 rfl ?_
    refine Ev_getI flX10_242 rfl dX10_tellLoom_65 ?_
    refine Ev_dup2 dX10_tellLoom_68 ?_
    obtain ⟨g, h⟩ := h
    refine Ev_iald g dX10_tellLoom_69 ?_
    refine Ev_iconst 1 dX10_tellLoom_70 (by decide) ?_
    refine Ev_iadd dX10_tellLoom_71 ?_
    obtain ⟨g, h⟩ := h
    refine Ev_iast g dX10_tellLoom_72 ?_
    have h := h _ rfl
    subst h
    exact R_v rfl dX10_tellLoom_73
set_option maxHeartbeats 4000000 in
set_option maxRecDepth 100000 in
theorem X10_tellOne_ok {d : Nat}  {μ μ' : Mem} (h : vp_in (μ.1 0 11) 403 ∧ (((μ.1 3 ((μ.1 0 11).toNatClampNeg)) = 20 → vp_in (μ.1 0 19) 2 ∧ (∃ (μ1 : Mem), X10_roomFor d (μ.1 9 ((μ.1 0 19).toNatClampNeg)) 6 μ μ1 ∧ (((μ1.1 0 13) ≠ 0 → X10_tellOne_at285 d μ1 μ') ∧ ((μ1.1 0 13) = 0 → (∃ (μ3 : Mem), X10_tellRow d μ1 μ3 ∧ X10_tellOne_at285 d μ3 μ'))))) ∧ ((μ.1 3 ((μ.1 0 11).toNatClampNeg)) = 21 → vp_in (μ.1 0 19) 2 ∧ (∃ (μ5 : Mem), X10_roomFor d (μ.1 12 ((μ.1 0 19).toNatClampNeg)) 6 μ μ5 ∧ (((μ5.1 0 13) ≠ 0 → X10_tellOne_at285 d μ5 μ') ∧ ((μ5.1 0 13) = 0 → (∃ (μ7 : Mem), X10_tellField d μ5 μ7 ∧ X10_tellOne_at285 d μ7 μ'))))) ∧ ((μ.1 3 ((μ.1 0 11).toNatClampNeg)) = 22 → vp_in (μ.1 0 19) 2 ∧ (∃ (μ9 : Mem), X10_roomFor d (μ.1 15 ((μ.1 0 19).toNatClampNeg)) 4 μ μ9 ∧ (((μ9.1 0 13) ≠ 0 → X10_tellOne_at285 d μ9 μ') ∧ ((μ9.1 0 13) = 0 → (∃ (μ11 : Mem), X10_tellLoom d μ9 μ11 ∧ X10_tellOne_at285 d μ11 μ'))))) ∧ ((μ.1 3 ((μ.1 0 11).toNatClampNeg)) = 23 → X10_tellOne_at232 d μ μ') ∧ ((μ.1 3 ((μ.1 0 11).toNatClampNeg)) = 24 → X10_tellOne_at232 d μ μ') ∧ ((μ.1 3 ((μ.1 0 11).toNatClampNeg)) = 25 → X10_tellOne_at232 d μ μ') ∧ ((μ.1 3 ((μ.1 0 11).toNatClampNeg)) = 26 → (∃ (μ13 : Mem), X10_goesOn d μ μ13 ∧ (∃ (y17 : Int32) (μ15 : Mem), X10_bounded d 0 9999 μ13 y17 μ15 ∧ vp_in (μ13.1 0 19) 2 ∧ (∀ μ18 : Mem, μ18 = sI μ15 18 ((μ13.1 0 19).toNatClampNeg) y17 → (∃ (μ19 : Mem), X10_must d 4 μ18 μ19 ∧ X10_tellOne_at285 d μ19 μ'))))) ∧ ((μ.1 3 ((μ.1 0 11).toNatClampNeg)) = 27 → (∃ (μ21 : Mem), X10_goesOn d μ μ21 ∧ (∃ (y25 : Int32) (μ23 : Mem), X10_bounded d 0 100 μ21 y25 μ23 ∧ vp_in (μ21.1 0 19) 2 ∧ (∀ μ26 : Mem, μ26 = sI μ23 19 ((μ21.1 0 19).toNatClampNeg) y25 → (∃ (μ27 : Mem), X10_must d 4 μ26 μ27 ∧ X10_tellOne_at285 d μ27 μ'))))) ∧ ((μ.1 3 ((μ.1 0 11).toNatClampNeg)) = 28 → (∃ (μ29 : Mem), X10_goesOn d μ μ29 ∧ (∃ (y33 : Int32) (μ31 : Mem), X10_bounded d 0 9999 μ29 y33 μ31 ∧ vp_in (μ29.1 0 19) 2 ∧ (∀ μ34 : Mem, μ34 = sI μ31 20 ((μ29.1 0 19).toNatClampNeg) y33 → (∃ (μ35 : Mem), X10_must d 4 μ34 μ35 ∧ X10_tellOne_at285 d μ35 μ'))))) ∧ ((((μ.1 3 ((μ.1 0 11).toNatClampNeg))).toInt < 20 ∨ 28 < ((μ.1 3 ((μ.1 0 11).toNatClampNeg))).toInt) → X10_tellOne_at232 d μ μ'))) : X10_tellOne (d + 1) μ μ' := by
  refine Me_of [some (vr 10 0 0), none] rfl (Nat.le_of_ble_eq_true rfl) (by decide) ?_
  refine Ev_aload_n dX10_tellOne_0 rfl ?_
  refine Ev_getF 11 403 3 flX10_20 rfl dX10_tellOne_1 ?_
  refine Ev_aload_n dX10_tellOne_4 rfl ?_
  refine Ev_getI flX10_212 rfl dX10_tellOne_5 ?_
  obtain ⟨g, h⟩ := h
  refine Ev_iald g dX10_tellOne_8 ?_
  refine Ev_tab 232 dX10_tellOne_9 (by decide) (fun k hk e => ?_) (fun q => ?_)
  · rcases (show k = 0 ∨ k = 1 ∨ k = 2 ∨ k = 3 ∨ k = 4 ∨ k = 5 ∨ k = 6 ∨ k = 7 ∨ k = 8 by omega) with rfl | rfl | rfl | rfl | rfl | rfl | rfl | rfl | rfl
    · have h := h.1 (Int32.toInt_inj.mp (e.trans (by decide)))
      refine ⟨_, 60, rfl, by decide, ?_⟩
      refine Ev_aload_n dX10_tellOne_60 rfl ?_
      refine Ev_aload_n dX10_tellOne_61 rfl ?_
      refine Ev_getF 11 2 9 flX10_43 rfl dX10_tellOne_62 ?_
      refine Ev_aload_n dX10_tellOne_65 rfl ?_
      refine Ev_getI flX10_242 rfl dX10_tellOne_66 ?_
      obtain ⟨g, h⟩ := h
      refine Ev_iald g dX10_tellOne_69 ?_
      refine Ev_bipush 6 dX10_tellOne_70 (by decide) ?_
      obtain ⟨μ1, hM2, h⟩ := h
      refine Ev_callV [_, _] mlX10_271 rfl rfl (Nat.le_of_ble_eq_true rfl) dX10_tellOne_72 hM2 ?_
      refine Ev_aload_n dX10_tellOne_75 rfl ?_
      refine Ev_getI flX10_209 rfl dX10_tellOne_76 ?_
      refine Ev_if_ne 285 dX10_tellOne_79 (by decide) (fun q => ?_) (fun q => ?_)
      · have h := h.1 q
        refine Ev_weak ?_ h
        exact And.intro trivial (And.intro trivial (trivial))
      · have h := h.2 q
        refine Ev_aload_n dX10_tellOne_82 rfl ?_
        obtain ⟨μ3, hM4, h⟩ := h
        refine Ev_callV [] mlX10_274 rfl rfl (Nat.le_of_ble_eq_true rfl) dX10_tellOne_83 hM4 ?_
        refine Ev_goto 285 dX10_tellOne_86 (by decide) ?_
        refine Ev_weak ?_ h
        exact And.intro trivial (And.intro trivial (trivial))
    · have h := h.2.1 (Int32.toInt_inj.mp (e.trans (by decide)))
      refine ⟨_, 89, rfl, by decide, ?_⟩
      refine Ev_aload_n dX10_tellOne_89 rfl ?_
      refine Ev_aload_n dX10_tellOne_90 rfl ?_
      refine Ev_getF 11 2 12 flX10_52 rfl dX10_tellOne_91 ?_
      refine Ev_aload_n dX10_tellOne_94 rfl ?_
      refine Ev_getI flX10_242 rfl dX10_tellOne_95 ?_
      obtain ⟨g, h⟩ := h
      refine Ev_iald g dX10_tellOne_98 ?_
      refine Ev_bipush 6 dX10_tellOne_99 (by decide) ?_
      obtain ⟨μ5, hM6, h⟩ := h
      refine Ev_callV [_, _] mlX10_271 rfl rfl (Nat.le_of_ble_eq_true rfl) dX10_tellOne_101 hM6 ?_
      refine Ev_aload_n dX10_tellOne_104 rfl ?_
      refine Ev_getI flX10_209 rfl dX10_tellOne_105 ?_
      refine Ev_if_ne 285 dX10_tellOne_108 (by decide) (fun q => ?_) (fun q => ?_)
      · have h := h.1 q
        refine Ev_weak ?_ h
        exact And.intro trivial (And.intro trivial (trivial))
      · have h := h.2 q
        refine Ev_aload_n dX10_tellOne_111 rfl ?_
        obtain ⟨μ7, hM8, h⟩ := h
        refine Ev_callV [] mlX10_277 rfl rfl (Nat.le_of_ble_eq_true rfl) dX10_tellOne_112 hM8 ?_
        refine Ev_goto 285 dX10_tellOne_115 (by decide) ?_
        refine Ev_weak ?_ h
        exact And.intro trivial (And.intro trivial (trivial))
    · have h := h.2.2.1 (Int32.toInt_inj.mp (e.trans (by decide)))
      refine ⟨_, 118, rfl, by decide, ?_⟩
      refine Ev_aload_n dX10_tellOne_118 rfl ?_
      refine Ev_aload_n dX10_tellOne_119 rfl ?_
      refine Ev_getF 11 2 15 flX10_61 rfl dX10_tellOne_120 ?_
      refine Ev_aload_n dX10_tellOne_123 rfl ?_
      refine Ev_getI flX10_242 rfl dX10_tellOne_124 ?_
      obtain ⟨g, h⟩ := h
      refine Ev_iald g dX10_tellOne_127 ?_
      refine Ev_iconst 4 dX10_tellOne_128 (by decide) ?_
      obtain ⟨μ9, hM10, h⟩ := h
      refine Ev_callV [_, _] mlX10_271 rfl rfl (Nat.le_of_ble_eq_true rfl) dX10_tellOne_129 hM10 ?_
      refine Ev_aload_n dX10_tellOne_132 rfl ?_
      refine Ev_getI flX10_209 rfl dX10_tellOne_133 ?_
      refine Ev_if_ne 285 dX10_tellOne_136 (by decide) (fun q => ?_) (fun q => ?_)
      · have h := h.1 q
        refine Ev_weak ?_ h
        exact And.intro trivial (And.intro trivial (trivial))
      · have h := h.2 q
        refine Ev_aload_n dX10_tellOne_139 rfl ?_
        obtain ⟨μ11, hM12, h⟩ := h
        refine Ev_callV [] mlX10_280 rfl rfl (Nat.le_of_ble_eq_true rfl) dX10_tellOne_140 hM12 ?_
        refine Ev_goto 285 dX10_tellOne_143 (by decide) ?_
        refine Ev_weak ?_ h
        exact And.intro trivial (And.intro trivial (trivial))
    · have h := h.2.2.2.1 (Int32.toInt_inj.mp (e.trans (by decide)))
      refine ⟨_, 232, rfl, by decide, ?_⟩
      exact h
    · have h := h.2.2.2.2.1 (Int32.toInt_inj.mp (e.trans (by decide)))
      refine ⟨_, 232, rfl, by decide, ?_⟩
      exact h
    · have h := h.2.2.2.2.2.1 (Int32.toInt_inj.mp (e.trans (by decide)))
      refine ⟨_, 232, rfl, by decide, ?_⟩
      exact h
    · have h := h.2.2.2.2.2.2.1 (Int32.toInt_inj.mp (e.trans (by decide)))
      refine ⟨_, 146, rfl, by decide, ?_⟩
      refine Ev_aload_n dX10_tellOne_146 rfl ?_
      obtain ⟨μ13, hM14, h⟩ := h
      refine Ev_callV [] mlX10_230 rfl rfl (Nat.le_of_ble_eq_true rfl) dX10_tellOne_147 hM14 ?_
      refine Ev_aload_n dX10_tellOne_150 rfl ?_
      refine Ev_getF 11 2 18 flX10_70 rfl dX10_tellOne_151 ?_
      refine Ev_aload_n dX10_tellOne_154 rfl ?_
      refine Ev_getI flX10_242 rfl dX10_tellOne_155 ?_
      refine Ev_aload_n dX10_tellOne_158 rfl ?_
      refine Ev_iconst 0 dX10_tellOne_159 (by decide) ?_
      refine Ev_sipush 9999 dX10_tellOne_160 (by decide) ?_
      obtain ⟨y17, μ15, hM16, h⟩ := h
      refine Ev_callV [_, _] mlX10_283 rfl rfl (Nat.le_of_ble_eq_true rfl) dX10_tellOne_163 hM16 ?_
      obtain ⟨g, h⟩ := h
      refine Ev_iast g dX10_tellOne_166 ?_
      have h := h _ rfl
      refine Ev_aload_n dX10_tellOne_167 rfl ?_
      refine Ev_iconst 4 dX10_tellOne_168 (by decide) ?_
      obtain ⟨μ19, hM20, h⟩ := h
      refine Ev_callV [_] mlX10_287 rfl rfl (Nat.le_of_ble_eq_true rfl) dX10_tellOne_169 hM20 ?_
      refine Ev_goto 285 dX10_tellOne_172 (by decide) ?_
      refine Ev_weak ?_ h
      exact And.intro trivial (And.intro trivial (trivial))
    · have h := h.2.2.2.2.2.2.2.1 (Int32.toInt_inj.mp (e.trans (by decide)))
      refine ⟨_, 175, rfl, by decide, ?_⟩
      refine Ev_aload_n dX10_tellOne_175 rfl ?_
      obtain ⟨μ21, hM22, h⟩ := h
      refine Ev_callV [] mlX10_230 rfl rfl (Nat.le_of_ble_eq_true rfl) dX10_tellOne_176 hM22 ?_
      refine Ev_aload_n dX10_tellOne_179 rfl ?_
      refine Ev_getF 11 2 19 flX10_73 rfl dX10_tellOne_180 ?_
      refine Ev_aload_n dX10_tellOne_183 rfl ?_
      refine Ev_getI flX10_242 rfl dX10_tellOne_184 ?_
      refine Ev_aload_n dX10_tellOne_187 rfl ?_
      refine Ev_iconst 0 dX10_tellOne_188 (by decide) ?_
      refine Ev_bipush 100 dX10_tellOne_189 (by decide) ?_
      obtain ⟨y25, μ23, hM24, h⟩ := h
      refine Ev_callV [_, _] mlX10_283 rfl rfl (Nat.le_of_ble_eq_true rfl) dX10_tellOne_191 hM24 ?_
      obtain ⟨g, h⟩ := h
      refine Ev_iast g dX10_tellOne_194 ?_
      have h := h _ rfl
      refine Ev_aload_n dX10_tellOne_195 rfl ?_
      refine Ev_iconst 4 dX10_tellOne_196 (by decide) ?_
      obtain ⟨μ27, hM28, h⟩ := h
      refine Ev_callV [_] mlX10_287 rfl rfl (Nat.le_of_ble_eq_true rfl) dX10_tellOne_197 hM28 ?_
      refine Ev_goto 285 dX10_tellOne_200 (by decide) ?_
      refine Ev_weak ?_ h
      exact And.intro trivial (And.intro trivial (trivial))
    · have h := h.2.2.2.2.2.2.2.2.1 (Int32.toInt_inj.mp (e.trans (by decide)))
      refine ⟨_, 203, rfl, by decide, ?_⟩
      refine Ev_aload_n dX10_tellOne_203 rfl ?_
      obtain ⟨μ29, hM30, h⟩ := h
      refine Ev_callV [] mlX10_230 rfl rfl (Nat.le_of_ble_eq_true rfl) dX10_tellOne_204 hM30 ?_
      refine Ev_aload_n dX10_tellOne_207 rfl ?_
      refine Ev_getF 11 2 20 flX10_76 rfl dX10_tellOne_208 ?_
      refine Ev_aload_n dX10_tellOne_211 rfl ?_
      refine Ev_getI flX10_242 rfl dX10_tellOne_212 ?_
      refine Ev_aload_n dX10_tellOne_215 rfl ?_
      refine Ev_iconst 0 dX10_tellOne_216 (by decide) ?_
      refine Ev_sipush 9999 dX10_tellOne_217 (by decide) ?_
      obtain ⟨y33, μ31, hM32, h⟩ := h
      refine Ev_callV [_, _] mlX10_283 rfl rfl (Nat.le_of_ble_eq_true rfl) dX10_tellOne_220 hM32 ?_
      obtain ⟨g, h⟩ := h
      refine Ev_iast g dX10_tellOne_223 ?_
      have h := h _ rfl
      refine Ev_aload_n dX10_tellOne_224 rfl ?_
      refine Ev_iconst 4 dX10_tellOne_225 (by decide) ?_
      obtain ⟨μ35, hM36, h⟩ := h
      refine Ev_callV [_] mlX10_287 rfl rfl (Nat.le_of_ble_eq_true rfl) dX10_tellOne_226 hM36 ?_
      refine Ev_goto 285 dX10_tellOne_229 (by decide) ?_
      refine Ev_weak ?_ h
      exact And.intro trivial (And.intro trivial (trivial))
  · have h := h.2.2.2.2.2.2.2.2.2 q
    exact h
set_option maxHeartbeats 4000000 in
set_option maxRecDepth 100000 in
theorem X10_tellOne_at285_ok {d : Nat}  {μ μ' : Mem} (h : μ' = μ) : X10_tellOne_at285 d μ μ' := by
  subst h
  exact R_v rfl dX10_tellOne_285
set_option maxHeartbeats 4000000 in
set_option maxRecDepth 100000 in
theorem X10_tellOne_at232_ok {d : Nat}  {μ μ' : Mem} (h : vp_in (μ.1 0 11) 403 ∧ ((((μ.1 3 ((μ.1 0 11).toNatClampNeg)) - 23) < 0 → X10_tellOne_at263 d ((μ.1 3 ((μ.1 0 11).toNatClampNeg)) - 23) μ μ') ∧ (¬ ((μ.1 3 ((μ.1 0 11).toNatClampNeg)) - 23) < 0 → vp_in (μ.1 0 11) 403 ∧ (((μ.1 3 ((μ.1 0 11).toNatClampNeg)) ≤ 25 → X10_tellOne_at268 d ((μ.1 3 ((μ.1 0 11).toNatClampNeg)) - 23) μ μ') ∧ (¬ (μ.1 3 ((μ.1 0 11).toNatClampNeg)) ≤ 25 → X10_tellOne_at263 d ((μ.1 3 ((μ.1 0 11).toNatClampNeg)) - 23) μ μ'))))) : X10_tellOne_at232 d μ μ' := by
  refine Ev_aload_n dX10_tellOne_232 rfl ?_
  refine Ev_getF 11 403 3 flX10_20 rfl dX10_tellOne_233 ?_
  refine Ev_aload_n dX10_tellOne_236 rfl ?_
  refine Ev_getI flX10_212 rfl dX10_tellOne_237 ?_
  obtain ⟨g, h⟩ := h
  refine Ev_iald g dX10_tellOne_240 ?_
  refine Ev_bipush 23 dX10_tellOne_241 (by decide) ?_
  refine Ev_isub dX10_tellOne_243 ?_
  refine Ev_istore_n dX10_tellOne_244 (Nat.le_of_ble_eq_true rfl) (okp_of rfl) ?_
  refine Ev_iload_n dX10_tellOne_245 rfl ?_
  refine Ev_if_lt 263 dX10_tellOne_246 (by decide) (fun q => ?_) (fun q => ?_)
  · have h := h.1 q
    exact h
  · have h := h.2 q
    refine Ev_aload_n dX10_tellOne_249 rfl ?_
    refine Ev_getF 11 403 3 flX10_20 rfl dX10_tellOne_250 ?_
    refine Ev_aload_n dX10_tellOne_253 rfl ?_
    refine Ev_getI flX10_212 rfl dX10_tellOne_254 ?_
    obtain ⟨g, h⟩ := h
    refine Ev_iald g dX10_tellOne_257 ?_
    refine Ev_bipush 25 dX10_tellOne_258 (by decide) ?_
    refine Ev_icmp_le 268 dX10_tellOne_260 (by decide) (fun q => ?_) (fun q => ?_)
    · have h := h.1 q
      exact h
    · have h := h.2 q
      exact h
set_option maxHeartbeats 4000000 in
set_option maxRecDepth 100000 in
theorem X10_tellOne_at263_ok {d : Nat} {x1 : Int32} {μ μ' : Mem} (h : (∃ (μ1 : Mem), X10_fail d 1 μ μ1 ∧ X10_tellOne_at268 d x1 μ1 μ')) : X10_tellOne_at263 d x1 μ μ' := by
  refine Ev_aload_n dX10_tellOne_263 rfl ?_
  refine Ev_iconst 1 dX10_tellOne_264 (by decide) ?_
  obtain ⟨μ1, hM2, h⟩ := h
  refine Ev_callV [_] mlX10_224 rfl rfl (Nat.le_of_ble_eq_true rfl) dX10_tellOne_265 hM2 ?_
  exact h
set_option maxHeartbeats 4000000 in
set_option maxRecDepth 100000 in
theorem X10_tellOne_at268_ok {d : Nat} {x1 : Int32} {μ μ' : Mem} (h : (((μ.1 0 13) ≤ 0 → (∃ (μ1 : Mem), X10_goesOn d μ μ1 ∧ (∃ (μ3 : Mem), X10_tellLaw d x1 μ1 μ3 ∧ X10_tellOne_at285 d μ3 μ'))) ∧ (¬ (μ.1 0 13) ≤ 0 → μ' = μ))) : X10_tellOne_at268 d x1 μ μ' := by
  refine Ev_aload_n dX10_tellOne_268 rfl ?_
  refine Ev_getI flX10_209 rfl dX10_tellOne_269 ?_
  refine Ev_if_le 276 dX10_tellOne_272 (by decide) (fun q => ?_) (fun q => ?_)
  · have h := h.1 q
    refine Ev_aload_n dX10_tellOne_276 rfl ?_
    obtain ⟨μ1, hM2, h⟩ := h
    refine Ev_callV [] mlX10_230 rfl rfl (Nat.le_of_ble_eq_true rfl) dX10_tellOne_277 hM2 ?_
    refine Ev_aload_n dX10_tellOne_280 rfl ?_
    refine Ev_iload_n dX10_tellOne_281 rfl ?_
    obtain ⟨μ3, hM4, h⟩ := h
    refine Ev_callV [_] mlX10_290 rfl rfl (Nat.le_of_ble_eq_true rfl) dX10_tellOne_282 hM4 ?_
    refine Ev_weak ?_ h
    exact And.intro trivial (And.intro trivial (trivial))
  · have h := h.2 q
    subst h
    exact R_v rfl dX10_tellOne_275
set_option maxHeartbeats 4000000 in
set_option maxRecDepth 100000 in
theorem X10_tellRow_ok {d : Nat}  {μ μ' : Mem} (h : (∃ (μ1 : Mem), X10_must d 1 μ μ1 ∧ (((μ1.1 0 13) ≠ 0 → (∃ (μ3 : Mem), X10_must d 4 μ1 μ3 ∧ (((μ3.1 0 13) ≠ 0 → μ' = μ3) ∧ ((μ3.1 0 13) = 0 → vp_in (μ3.1 0 19) 2 ∧ vp_in (μ3.1 0 19) 2 ∧ (∀ μ5 : Mem, μ5 = sI μ3 9 ((μ3.1 0 19).toNatClampNeg) ((μ3.1 9 ((μ3.1 0 19).toNatClampNeg)) + 1) → μ' = μ5))))) ∧ ((μ1.1 0 13) = 0 → vp_in (μ.1 0 11) 403 ∧ X10_tellRow_at30 d (μ.1 0 11) (μ1.2.1 6 ((μ.1 0 11).toNatClampNeg)) 0 (μ1.2.1 6 ((μ.1 0 11).toNatClampNeg)) μ1 μ')))) : X10_tellRow (d + 1) μ μ' := by
  refine Me_of [some (vr 10 0 0), none, none, none, none, none, none] rfl (Nat.le_of_ble_eq_true rfl) (by decide) ?_
  refine Ev_aload_n dX10_tellRow_0 rfl ?_
  refine Ev_getI flX10_212 rfl dX10_tellRow_1 ?_
  refine Ev_istore_n dX10_tellRow_4 (Nat.le_of_ble_eq_true rfl) (okp_of rfl) ?_
  refine Ev_aload_n dX10_tellRow_5 rfl ?_
  refine Ev_iconst 1 dX10_tellRow_6 (by decide) ?_
  obtain ⟨μ1, hM2, h⟩ := h
  refine Ev_callV [_] mlX10_287 rfl rfl (Nat.le_of_ble_eq_true rfl) dX10_tellRow_7 hM2 ?_
  refine Ev_aload_n dX10_tellRow_10 rfl ?_
  refine Ev_getI flX10_209 rfl dX10_tellRow_11 ?_
  refine Ev_if_ne 195 dX10_tellRow_14 (by decide) (fun q => ?_) (fun q => ?_)
  · have h := h.1 q
    refine Ev_aload_n dX10_tellRow_195 rfl ?_
    refine Ev_iconst 4 dX10_tellRow_196 (by decide) ?_
    obtain ⟨μ3, hM4, h⟩ := h
    refine Ev_callV [_] mlX10_287 rfl rfl (Nat.le_of_ble_eq_true rfl) dX10_tellRow_197 hM4 ?_
    refine Ev_aload_n dX10_tellRow_200 rfl ?_
    refine Ev_getI flX10_209 rfl dX10_tellRow_201 ?_
    refine Ev_if_ne 220 dX10_tellRow_204 (by decide) (fun q => ?_) (fun q => ?_)
    · have h := h.1 q
      subst h
      exact R_v rfl dX10_tellRow_220
    · have h := h.2 q
      refine Ev_aload_n dX10_tellRow_207 rfl ?_
      refine Ev_getF 11 2 9 flX10_43 rfl dX10_tellRow_208 ?_
      refine Ev_aload_n dX10_tellRow_211 rfl ?_
      refine Ev_getI flX10_242 rfl dX10_tellRow_212 ?_
      refine Ev_dup2 dX10_tellRow_215 ?_
      obtain ⟨g, h⟩ := h
      refine Ev_iald g dX10_tellRow_216 ?_
      refine Ev_iconst 1 dX10_tellRow_217 (by decide) ?_
      refine Ev_iadd dX10_tellRow_218 ?_
      obtain ⟨g, h⟩ := h
      refine Ev_iast g dX10_tellRow_219 ?_
      have h := h _ rfl
      subst h
      exact R_v rfl dX10_tellRow_220
  · have h := h.2 q
    refine Ev_aload_n dX10_tellRow_17 rfl ?_
    refine Ev_getF 13 403 6 flX10_30 rfl dX10_tellRow_18 ?_
    refine Ev_iload_n dX10_tellRow_21 rfl ?_
    obtain ⟨g, h⟩ := h
    refine Ev_lald g dX10_tellRow_22 ?_
    refine Ev_lstore_n dX10_tellRow_23 (Nat.le_of_ble_eq_true rfl) (okp_of rfl) ?_
    refine Ev_iconst 0 dX10_tellRow_24 (by decide) ?_
    refine Ev_istore dX10_tellRow_25 (Nat.le_of_ble_eq_true rfl) (okp_of rfl) ?_
    refine Ev_lload_n dX10_tellRow_27 rfl ?_
    refine Ev_lstore dX10_tellRow_28 (Nat.le_of_ble_eq_true rfl) (okp_of rfl) ?_
    exact h
set_option maxHeartbeats 4000000 in
set_option maxRecDepth 100000 in
theorem X10_tellRow_at30_ok {d : Nat} {x1 : Int32} {x2 : Int64} {x4 : Int32} {x5 : Int64} {μ μ' : Mem} (h : (((lg_cmp x5 0) ≤ 0 → vp_in (μ.1 0 19) 2 ∧ (((μ.1 9 ((μ.1 0 19).toNatClampNeg)) ≠ 0 → vp_in (μ.1 0 19) 2 ∧ ((x4 = (μ.1 10 ((μ.1 0 19).toNatClampNeg)) → X10_tellRow_at101 d x1 x2 (x4 - 1) μ μ') ∧ (¬ x4 = (μ.1 10 ((μ.1 0 19).toNatClampNeg)) → (∃ (μ1 : Mem), X10_wrong d 6 x1 μ μ1 ∧ X10_tellRow_at101 d x1 x2 (x4 - 1) μ1 μ')))) ∧ ((μ.1 9 ((μ.1 0 19).toNatClampNeg)) = 0 → vp_in (μ.1 0 19) 2 ∧ (∀ μ3 : Mem, μ3 = sI μ 10 ((μ.1 0 19).toNatClampNeg) x4 → vp_in (μ3.1 0 19) 2 ∧ ((x4 = (μ3.1 10 ((μ3.1 0 19).toNatClampNeg)) → X10_tellRow_at101 d x1 x2 (x4 - 1) μ3 μ') ∧ (¬ x4 = (μ3.1 10 ((μ3.1 0 19).toNatClampNeg)) → (∃ (μ4 : Mem), X10_wrong d 6 x1 μ3 μ4 ∧ X10_tellRow_at101 d x1 x2 (x4 - 1) μ4 μ'))))))) ∧ (¬ (lg_cmp x5 0) ≤ 0 → X10_tellRow_at30 d x1 x2 (x4 + 1) (x5 / 27) μ μ'))) : X10_tellRow_at30 d x1 x2 x4 x5 μ μ' := by
  refine Ev_lload dX10_tellRow_30 rfl ?_
  refine Ev_lconst 0 dX10_tellRow_32 (by decide) ?_
  refine Ev_lcmp dX10_tellRow_33 ?_
  refine Ev_if_le 51 dX10_tellRow_34 (by decide) (fun q => ?_) (fun q => ?_)
  · have h := h.1 q
    refine Ev_aload_n dX10_tellRow_51 rfl ?_
    refine Ev_getF 11 2 9 flX10_43 rfl dX10_tellRow_52 ?_
    refine Ev_aload_n dX10_tellRow_55 rfl ?_
    refine Ev_getI flX10_242 rfl dX10_tellRow_56 ?_
    obtain ⟨g, h⟩ := h
    refine Ev_iald g dX10_tellRow_59 ?_
    refine Ev_if_ne 74 dX10_tellRow_60 (by decide) (fun q => ?_) (fun q => ?_)
    · have h := h.1 q
      refine Ev_iload dX10_tellRow_74 rfl ?_
      refine Ev_aload_n dX10_tellRow_76 rfl ?_
      refine Ev_getF 11 2 10 flX10_46 rfl dX10_tellRow_77 ?_
      refine Ev_aload_n dX10_tellRow_80 rfl ?_
      refine Ev_getI flX10_242 rfl dX10_tellRow_81 ?_
      obtain ⟨g, h⟩ := h
      refine Ev_iald g dX10_tellRow_84 ?_
      refine Ev_icmp_eq 95 dX10_tellRow_85 (by decide) (fun q => ?_) (fun q => ?_)
      · have h := h.1 q
        refine Ev_iload dX10_tellRow_95 rfl ?_
        refine Ev_iconst 1 dX10_tellRow_97 (by decide) ?_
        refine Ev_isub dX10_tellRow_98 ?_
        refine Ev_istore dX10_tellRow_99 (Nat.le_of_ble_eq_true rfl) (okp_of rfl) ?_
        refine Ev_weak ?_ h
        exact And.intro rfl (And.intro rfl (And.intro rfl (And.intro trivial (And.intro trivial (And.intro rfl (And.intro trivial (trivial)))))))
      · have h := h.2 q
        refine Ev_aload_n dX10_tellRow_88 rfl ?_
        refine Ev_bipush 6 dX10_tellRow_89 (by decide) ?_
        refine Ev_iload_n dX10_tellRow_91 rfl ?_
        obtain ⟨μ1, hM2, h⟩ := h
        refine Ev_callV [_, _] mlX10_261 rfl rfl (Nat.le_of_ble_eq_true rfl) dX10_tellRow_92 hM2 ?_
        refine Ev_iload dX10_tellRow_95 rfl ?_
        refine Ev_iconst 1 dX10_tellRow_97 (by decide) ?_
        refine Ev_isub dX10_tellRow_98 ?_
        refine Ev_istore dX10_tellRow_99 (Nat.le_of_ble_eq_true rfl) (okp_of rfl) ?_
        refine Ev_weak ?_ h
        exact And.intro rfl (And.intro rfl (And.intro rfl (And.intro trivial (And.intro trivial (And.intro rfl (And.intro trivial (trivial)))))))
    · have h := h.2 q
      refine Ev_aload_n dX10_tellRow_63 rfl ?_
      refine Ev_getF 11 2 10 flX10_46 rfl dX10_tellRow_64 ?_
      refine Ev_aload_n dX10_tellRow_67 rfl ?_
      refine Ev_getI flX10_242 rfl dX10_tellRow_68 ?_
      refine Ev_iload dX10_tellRow_71 rfl ?_
      obtain ⟨g, h⟩ := h
      refine Ev_iast g dX10_tellRow_73 ?_
      have h := h _ rfl
      refine Ev_iload dX10_tellRow_74 rfl ?_
      refine Ev_aload_n dX10_tellRow_76 rfl ?_
      refine Ev_getF 11 2 10 flX10_46 rfl dX10_tellRow_77 ?_
      refine Ev_aload_n dX10_tellRow_80 rfl ?_
      refine Ev_getI flX10_242 rfl dX10_tellRow_81 ?_
      obtain ⟨g, h⟩ := h
      refine Ev_iald g dX10_tellRow_84 ?_
      refine Ev_icmp_eq 95 dX10_tellRow_85 (by decide) (fun q => ?_) (fun q => ?_)
      · have h := h.1 q
        refine Ev_iload dX10_tellRow_95 rfl ?_
        refine Ev_iconst 1 dX10_tellRow_97 (by decide) ?_
        refine Ev_isub dX10_tellRow_98 ?_
        refine Ev_istore dX10_tellRow_99 (Nat.le_of_ble_eq_true rfl) (okp_of rfl) ?_
        refine Ev_weak ?_ h
        exact And.intro rfl (And.intro rfl (And.intro rfl (And.intro trivial (And.intro trivial (And.intro rfl (And.intro trivial (trivial)))))))
      · have h := h.2 q
        refine Ev_aload_n dX10_tellRow_88 rfl ?_
        refine Ev_bipush 6 dX10_tellRow_89 (by decide) ?_
        refine Ev_iload_n dX10_tellRow_91 rfl ?_
        obtain ⟨μ4, hM5, h⟩ := h
        refine Ev_callV [_, _] mlX10_261 rfl rfl (Nat.le_of_ble_eq_true rfl) dX10_tellRow_92 hM5 ?_
        refine Ev_iload dX10_tellRow_95 rfl ?_
        refine Ev_iconst 1 dX10_tellRow_97 (by decide) ?_
        refine Ev_isub dX10_tellRow_98 ?_
        refine Ev_istore dX10_tellRow_99 (Nat.le_of_ble_eq_true rfl) (okp_of rfl) ?_
        refine Ev_weak ?_ h
        exact And.intro rfl (And.intro rfl (And.intro rfl (And.intro trivial (And.intro trivial (And.intro rfl (And.intro trivial (trivial)))))))
  · have h := h.2 q
    refine Ev_iinc (x4 + 1) dX10_tellRow_37 rfl rfl (okp_of rfl) ?_
    refine Ev_lload dX10_tellRow_40 rfl ?_
    refine Ev_ldc2 27 dX10_tellRow_42 (ts5 200 rfl rfl) ?_
    refine Ev_ldiv dX10_tellRow_45 (by decide) ?_
    refine Ev_lstore dX10_tellRow_46 (Nat.le_of_ble_eq_true rfl) (okp_of rfl) ?_
    refine Ev_goto 30 dX10_tellRow_48 (by decide) ?_
    exact h
set_option maxHeartbeats 4000000 in
set_option maxRecDepth 100000 in
theorem X10_tellRow_at101_ok {d : Nat} {x1 : Int32} {x2 : Int64} {x5 : Int32} {μ μ' : Mem} (h : ((x5 < 0 → (∃ (μ1 : Mem), X10_must d 4 μ μ1 ∧ (((μ1.1 0 13) ≠ 0 → μ' = μ1) ∧ ((μ1.1 0 13) = 0 → vp_in (μ1.1 0 19) 2 ∧ vp_in (μ1.1 0 19) 2 ∧ (∀ μ3 : Mem, μ3 = sI μ1 9 ((μ1.1 0 19).toNatClampNeg) ((μ1.1 9 ((μ1.1 0 19).toNatClampNeg)) + 1) → μ' = μ3))))) ∧ (¬ x5 < 0 → (((96 + ((x2 - x2 / 27 * 27).toInt32)) = 111 → vp_in (μ.1 0 19) 2 ∧ (((96 + ((x2 - x2 / 27 * 27).toInt32)) ≠ 111 → vp_in (((48 * (μ.1 0 19)) + (8 * (μ.1 9 ((μ.1 0 19).toNatClampNeg)))) + x5) 96 ∧ (∀ μ4 : Mem, μ4 = sI μ 11 ((((48 * (μ.1 0 19)) + (8 * (μ.1 9 ((μ.1 0 19).toNatClampNeg)))) + x5).toNatClampNeg) ((96 + ((x2 - x2 / 27 * 27).toInt32)) - 97) → X10_tellRow_at101 d x1 (x2 / 27) (x5 + (-1)) μ4 μ')) ∧ ((96 + ((x2 - x2 / 27 * 27).toInt32)) = 111 → vp_in (((48 * (μ.1 0 19)) + (8 * (μ.1 9 ((μ.1 0 19).toNatClampNeg)))) + x5) 96 ∧ (∀ μ5 : Mem, μ5 = sI μ 11 ((((48 * (μ.1 0 19)) + (8 * (μ.1 9 ((μ.1 0 19).toNatClampNeg)))) + x5).toNatClampNeg) (-2) → X10_tellRow_at101 d x1 (x2 / 27) (x5 + (-1)) μ5 μ')))) ∧ (¬ (96 + ((x2 - x2 / 27 * 27).toInt32)) = 111 → (((96 + ((x2 - x2 / 27 * 27).toInt32)) ≤ 102 → vp_in (μ.1 0 19) 2 ∧ (((96 + ((x2 - x2 / 27 * 27).toInt32)) ≠ 111 → vp_in (((48 * (μ.1 0 19)) + (8 * (μ.1 9 ((μ.1 0 19).toNatClampNeg)))) + x5) 96 ∧ (∀ μ6 : Mem, μ6 = sI μ 11 ((((48 * (μ.1 0 19)) + (8 * (μ.1 9 ((μ.1 0 19).toNatClampNeg)))) + x5).toNatClampNeg) ((96 + ((x2 - x2 / 27 * 27).toInt32)) - 97) → X10_tellRow_at101 d x1 (x2 / 27) (x5 + (-1)) μ6 μ')) ∧ ((96 + ((x2 - x2 / 27 * 27).toInt32)) = 111 → vp_in (((48 * (μ.1 0 19)) + (8 * (μ.1 9 ((μ.1 0 19).toNatClampNeg)))) + x5) 96 ∧ (∀ μ7 : Mem, μ7 = sI μ 11 ((((48 * (μ.1 0 19)) + (8 * (μ.1 9 ((μ.1 0 19).toNatClampNeg)))) + x5).toNatClampNeg) (-2) → X10_tellRow_at101 d x1 (x2 / 27) (x5 + (-1)) μ7 μ')))) ∧ (¬ (96 + ((x2 - x2 / 27 * 27).toInt32)) ≤ 102 → (∃ (μ8 : Mem), X10_wrong d 6 x1 μ μ8 ∧ vp_in (μ8.1 0 19) 2 ∧ (((96 + ((x2 - x2 / 27 * 27).toInt32)) ≠ 111 → vp_in (((48 * (μ8.1 0 19)) + (8 * (μ8.1 9 ((μ8.1 0 19).toNatClampNeg)))) + x5) 96 ∧ (∀ μ10 : Mem, μ10 = sI μ8 11 ((((48 * (μ8.1 0 19)) + (8 * (μ8.1 9 ((μ8.1 0 19).toNatClampNeg)))) + x5).toNatClampNeg) ((96 + ((x2 - x2 / 27 * 27).toInt32)) - 97) → X10_tellRow_at101 d x1 (x2 / 27) (x5 + (-1)) μ10 μ')) ∧ ((96 + ((x2 - x2 / 27 * 27).toInt32)) = 111 → vp_in (((48 * (μ8.1 0 19)) + (8 * (μ8.1 9 ((μ8.1 0 19).toNatClampNeg)))) + x5) 96 ∧ (∀ μ11 : Mem, μ11 = sI μ8 11 ((((48 * (μ8.1 0 19)) + (8 * (μ8.1 9 ((μ8.1 0 19).toNatClampNeg)))) + x5).toNatClampNeg) (-2) → X10_tellRow_at101 d x1 (x2 / 27) (x5 + (-1)) μ11 μ'))))))))))) : X10_tellRow_at101 d x1 x2 x5 μ μ' := by
  refine Ev_iload dX10_tellRow_101 rfl ?_
  refine Ev_if_lt 195 dX10_tellRow_103 (by decide) (fun q => ?_) (fun q => ?_)
  · have h := h.1 q
    refine Ev_aload_n dX10_tellRow_195 rfl ?_
    refine Ev_iconst 4 dX10_tellRow_196 (by decide) ?_
    obtain ⟨μ1, hM2, h⟩ := h
    refine Ev_callV [_] mlX10_287 rfl rfl (Nat.le_of_ble_eq_true rfl) dX10_tellRow_197 hM2 ?_
    refine Ev_aload_n dX10_tellRow_200 rfl ?_
    refine Ev_getI flX10_209 rfl dX10_tellRow_201 ?_
    refine Ev_if_ne 220 dX10_tellRow_204 (by decide) (fun q => ?_) (fun q => ?_)
    · have h := h.1 q
      subst h
      exact R_v rfl dX10_tellRow_220
    · have h := h.2 q
      refine Ev_aload_n dX10_tellRow_207 rfl ?_
      refine Ev_getF 11 2 9 flX10_43 rfl dX10_tellRow_208 ?_
      refine Ev_aload_n dX10_tellRow_211 rfl ?_
      refine Ev_getI flX10_242 rfl dX10_tellRow_212 ?_
      refine Ev_dup2 dX10_tellRow_215 ?_
      obtain ⟨g, h⟩ := h
      refine Ev_iald g dX10_tellRow_216 ?_
      refine Ev_iconst 1 dX10_tellRow_217 (by decide) ?_
      refine Ev_iadd dX10_tellRow_218 ?_
      obtain ⟨g, h⟩ := h
      refine Ev_iast g dX10_tellRow_219 ?_
      have h := h _ rfl
      subst h
      exact R_v rfl dX10_tellRow_220
  · have h := h.2 q
    refine Ev_bipush 96 dX10_tellRow_106 (by decide) ?_
    refine Ev_lload_n dX10_tellRow_108 rfl ?_
    refine Ev_ldc2 27 dX10_tellRow_109 (ts5 200 rfl rfl) ?_
    refine Ev_lrem dX10_tellRow_112 (by decide) ?_
    refine Ev_l2i dX10_tellRow_113 ?_
    refine Ev_iadd dX10_tellRow_114 ?_
    refine Ev_istore dX10_tellRow_115 (Nat.le_of_ble_eq_true rfl) (okp_of rfl) ?_
    refine Ev_iload dX10_tellRow_117 rfl ?_
    refine Ev_bipush 111 dX10_tellRow_119 (by decide) ?_
    refine Ev_icmp_eq 138 dX10_tellRow_121 (by decide) (fun q => ?_) (fun q => ?_)
    · have h := h.1 q
      refine Ev_aload_n dX10_tellRow_138 rfl ?_
      refine Ev_getF 11 96 11 flX10_49 rfl dX10_tellRow_139 ?_
      refine Ev_bipush 48 dX10_tellRow_142 (by decide) ?_
      refine Ev_aload_n dX10_tellRow_144 rfl ?_
      refine Ev_getI flX10_242 rfl dX10_tellRow_145 ?_
      refine Ev_imul dX10_tellRow_148 ?_
      refine Ev_bipush 8 dX10_tellRow_149 (by decide) ?_
      refine Ev_aload_n dX10_tellRow_151 rfl ?_
      refine Ev_getF 11 2 9 flX10_43 rfl dX10_tellRow_152 ?_
      refine Ev_aload_n dX10_tellRow_155 rfl ?_
      refine Ev_getI flX10_242 rfl dX10_tellRow_156 ?_
      obtain ⟨g, h⟩ := h
      refine Ev_iald g dX10_tellRow_159 ?_
      refine Ev_imul dX10_tellRow_160 ?_
      refine Ev_iadd dX10_tellRow_161 ?_
      refine Ev_iload dX10_tellRow_162 rfl ?_
      refine Ev_iadd dX10_tellRow_164 ?_
      refine Ev_iload dX10_tellRow_165 rfl ?_
      refine Ev_bipush 111 dX10_tellRow_167 (by decide) ?_
      refine Ev_icmp_ne 177 dX10_tellRow_169 (by decide) (fun q => ?_) (fun q => ?_)
      · have h := h.1 q
        refine Ev_iload dX10_tellRow_177 rfl ?_
        refine Ev_bipush 97 dX10_tellRow_179 (by decide) ?_
        refine Ev_isub dX10_tellRow_181 ?_
        obtain ⟨g, h⟩ := h
        refine Ev_iast g dX10_tellRow_182 ?_
        have h := h _ rfl
        refine Ev_lload_n dX10_tellRow_183 rfl ?_
        refine Ev_ldc2 27 dX10_tellRow_184 (ts5 200 rfl rfl) ?_
        refine Ev_ldiv dX10_tellRow_187 (by decide) ?_
        refine Ev_lstore_n dX10_tellRow_188 (Nat.le_of_ble_eq_true rfl) (okp_of rfl) ?_
        refine Ev_iinc (x5 + (-1)) dX10_tellRow_189 rfl rfl (okp_of rfl) ?_
        refine Ev_goto 101 dX10_tellRow_192 (by decide) ?_
        refine Ev_weak ?_ h
        exact And.intro rfl (And.intro rfl (And.intro rfl (And.intro trivial (And.intro trivial (And.intro rfl (And.intro trivial (trivial)))))))
      · have h := h.2 q
        refine Ev_bipush (-2) dX10_tellRow_172 (by decide) ?_
        refine Ev_goto 182 dX10_tellRow_174 (by decide) ?_
        obtain ⟨g, h⟩ := h
        refine Ev_iast g dX10_tellRow_182 ?_
        have h := h _ rfl
        refine Ev_lload_n dX10_tellRow_183 rfl ?_
        refine Ev_ldc2 27 dX10_tellRow_184 (ts5 200 rfl rfl) ?_
        refine Ev_ldiv dX10_tellRow_187 (by decide) ?_
        refine Ev_lstore_n dX10_tellRow_188 (Nat.le_of_ble_eq_true rfl) (okp_of rfl) ?_
        refine Ev_iinc (x5 + (-1)) dX10_tellRow_189 rfl rfl (okp_of rfl) ?_
        refine Ev_goto 101 dX10_tellRow_192 (by decide) ?_
        refine Ev_weak ?_ h
        exact And.intro rfl (And.intro rfl (And.intro rfl (And.intro trivial (And.intro trivial (And.intro rfl (And.intro trivial (trivial)))))))
    · have h := h.2 q
      refine Ev_iload dX10_tellRow_124 rfl ?_
      refine Ev_bipush 102 dX10_tellRow_126 (by decide) ?_
      refine Ev_icmp_le 138 dX10_tellRow_128 (by decide) (fun q => ?_) (fun q => ?_)
      · have h := h.1 q
        refine Ev_aload_n dX10_tellRow_138 rfl ?_
        refine Ev_getF 11 96 11 flX10_49 rfl dX10_tellRow_139 ?_
        refine Ev_bipush 48 dX10_tellRow_142 (by decide) ?_
        refine Ev_aload_n dX10_tellRow_144 rfl ?_
        refine Ev_getI flX10_242 rfl dX10_tellRow_145 ?_
        refine Ev_imul dX10_tellRow_148 ?_
        refine Ev_bipush 8 dX10_tellRow_149 (by decide) ?_
        refine Ev_aload_n dX10_tellRow_151 rfl ?_
        refine Ev_getF 11 2 9 flX10_43 rfl dX10_tellRow_152 ?_
        refine Ev_aload_n dX10_tellRow_155 rfl ?_
        refine Ev_getI flX10_242 rfl dX10_tellRow_156 ?_
        obtain ⟨g, h⟩ := h
        refine Ev_iald g dX10_tellRow_159 ?_
        refine Ev_imul dX10_tellRow_160 ?_
        refine Ev_iadd dX10_tellRow_161 ?_
        refine Ev_iload dX10_tellRow_162 rfl ?_
        refine Ev_iadd dX10_tellRow_164 ?_
        refine Ev_iload dX10_tellRow_165 rfl ?_
        refine Ev_bipush 111 dX10_tellRow_167 (by decide) ?_
        refine Ev_icmp_ne 177 dX10_tellRow_169 (by decide) (fun q => ?_) (fun q => ?_)
        · have h := h.1 q
          refine Ev_iload dX10_tellRow_177 rfl ?_
          refine Ev_bipush 97 dX10_tellRow_179 (by decide) ?_
          refine Ev_isub dX10_tellRow_181 ?_
          obtain ⟨g, h⟩ := h
          refine Ev_iast g dX10_tellRow_182 ?_
          have h := h _ rfl
          refine Ev_lload_n dX10_tellRow_183 rfl ?_
          refine Ev_ldc2 27 dX10_tellRow_184 (ts5 200 rfl rfl) ?_
          refine Ev_ldiv dX10_tellRow_187 (by decide) ?_
          refine Ev_lstore_n dX10_tellRow_188 (Nat.le_of_ble_eq_true rfl) (okp_of rfl) ?_
          refine Ev_iinc (x5 + (-1)) dX10_tellRow_189 rfl rfl (okp_of rfl) ?_
          refine Ev_goto 101 dX10_tellRow_192 (by decide) ?_
          refine Ev_weak ?_ h
          exact And.intro rfl (And.intro rfl (And.intro rfl (And.intro trivial (And.intro trivial (And.intro rfl (And.intro trivial (trivial)))))))
        · have h := h.2 q
          refine Ev_bipush (-2) dX10_tellRow_172 (by decide) ?_
          refine Ev_goto 182 dX10_tellRow_174 (by decide) ?_
          obtain ⟨g, h⟩ := h
          refine Ev_iast g dX10_tellRow_182 ?_
          have h := h _ rfl
          refine Ev_lload_n dX10_tellRow_183 rfl ?_
          refine Ev_ldc2 27 dX10_tellRow_184 (ts5 200 rfl rfl) ?_
          refine Ev_ldiv dX10_tellRow_187 (by decide) ?_
          refine Ev_lstore_n dX10_tellRow_188 (Nat.le_of_ble_eq_true rfl) (okp_of rfl) ?_
          refine Ev_iinc (x5 + (-1)) dX10_tellRow_189 rfl rfl (okp_of rfl) ?_
          refine Ev_goto 101 dX10_tellRow_192 (by decide) ?_
          refine Ev_weak ?_ h
          exact And.intro rfl (And.intro rfl (And.intro rfl (And.intro trivial (And.intro trivial (And.intro rfl (And.intro trivial (trivial)))))))
      · have h := h.2 q
        refine Ev_aload_n dX10_tellRow_131 rfl ?_
        refine Ev_bipush 6 dX10_tellRow_132 (by decide) ?_
        refine Ev_iload_n dX10_tellRow_134 rfl ?_
        obtain ⟨μ8, hM9, h⟩ := h
        refine Ev_callV [_, _] mlX10_261 rfl rfl (Nat.le_of_ble_eq_true rfl) dX10_tellRow_135 hM9 ?_
        refine Ev_aload_n dX10_tellRow_138 rfl ?_
        refine Ev_getF 11 96 11 flX10_49 rfl dX10_tellRow_139 ?_
        refine Ev_bipush 48 dX10_tellRow_142 (by decide) ?_
        refine Ev_aload_n dX10_tellRow_144 rfl ?_
        refine Ev_getI flX10_242 rfl dX10_tellRow_145 ?_
        refine Ev_imul dX10_tellRow_148 ?_
        refine Ev_bipush 8 dX10_tellRow_149 (by decide) ?_
        refine Ev_aload_n dX10_tellRow_151 rfl ?_
        refine Ev_getF 11 2 9 flX10_43 rfl dX10_tellRow_152 ?_
        refine Ev_aload_n dX10_tellRow_155 rfl ?_
        refine Ev_getI flX10_242 rfl dX10_tellRow_156 ?_
        obtain ⟨g, h⟩ := h
        refine Ev_iald g dX10_tellRow_159 ?_
        refine Ev_imul dX10_tellRow_160 ?_
        refine Ev_iadd dX10_tellRow_161 ?_
        refine Ev_iload dX10_tellRow_162 rfl ?_
        refine Ev_iadd dX10_tellRow_164 ?_
        refine Ev_iload dX10_tellRow_165 rfl ?_
        refine Ev_bipush 111 dX10_tellRow_167 (by decide) ?_
        refine Ev_icmp_ne 177 dX10_tellRow_169 (by decide) (fun q => ?_) (fun q => ?_)
        · have h := h.1 q
          refine Ev_iload dX10_tellRow_177 rfl ?_
          refine Ev_bipush 97 dX10_tellRow_179 (by decide) ?_
          refine Ev_isub dX10_tellRow_181 ?_
          obtain ⟨g, h⟩ := h
          refine Ev_iast g dX10_tellRow_182 ?_
          have h := h _ rfl
          refine Ev_lload_n dX10_tellRow_183 rfl ?_
          refine Ev_ldc2 27 dX10_tellRow_184 (ts5 200 rfl rfl) ?_
          refine Ev_ldiv dX10_tellRow_187 (by decide) ?_
          refine Ev_lstore_n dX10_tellRow_188 (Nat.le_of_ble_eq_true rfl) (okp_of rfl) ?_
          refine Ev_iinc (x5 + (-1)) dX10_tellRow_189 rfl rfl (okp_of rfl) ?_
          refine Ev_goto 101 dX10_tellRow_192 (by decide) ?_
          refine Ev_weak ?_ h
          exact And.intro rfl (And.intro rfl (And.intro rfl (And.intro trivial (And.intro trivial (And.intro rfl (And.intro trivial (trivial)))))))
        · have h := h.2 q
          refine Ev_bipush (-2) dX10_tellRow_172 (by decide) ?_
          refine Ev_goto 182 dX10_tellRow_174 (by decide) ?_
          obtain ⟨g, h⟩ := h
          refine Ev_iast g dX10_tellRow_182 ?_
          have h := h _ rfl
          refine Ev_lload_n dX10_tellRow_183 rfl ?_
          refine Ev_ldc2 27 dX10_tellRow_184 (ts5 200 rfl rfl) ?_
          refine Ev_ldiv dX10_tellRow_187 (by decide) ?_
          refine Ev_lstore_n dX10_tellRow_188 (Nat.le_of_ble_eq_true rfl) (okp_of rfl) ?_
          refine Ev_iinc (x5 + (-1)) dX10_tellRow_189 rfl rfl (okp_of rfl) ?_
          refine Ev_goto 101 dX10_tellRow_192 (by decide) ?_
          refine Ev_weak ?_ h
          exact And.intro rfl (And.intro rfl (And.intro rfl (And.intro trivial (And.intro trivial (And.intro rfl (And.intro trivial (trivial)))))))
set_option maxHeartbeats 4000000 in
set_option maxRecDepth 100000 in
theorem X10_term_ok {d : Nat}  {μ μ' : Mem} (h : vp_in (μ.1 0 36) 260 ∧ (∀ μ1 : Mem, μ1 = sI μ 26 ((μ.1 0 36).toNatClampNeg) (μ.1 0 42) → (((μ1.1 0 13) ≠ 0 → vp_in (μ1.1 0 36) 260 ∧ (∀ μ2 : Mem, μ2 = sI μ1 27 ((μ1.1 0 36).toNatClampNeg) (μ1.1 0 42) → (∀ μ3 : Mem, μ3 = sI μ2 0 36 ((μ2.1 0 36) + 1) → μ' = μ3))) ∧ ((μ1.1 0 13) = 0 → (∃ (μ4 : Mem), X10_expression d μ1 μ4 ∧ vp_in (μ4.1 0 36) 260 ∧ (∀ μ6 : Mem, μ6 = sI μ4 27 ((μ4.1 0 36).toNatClampNeg) (μ4.1 0 42) → (∀ μ7 : Mem, μ7 = sI μ6 0 36 ((μ6.1 0 36) + 1) → μ' = μ7))))))) : X10_term (d + 1) μ μ' := by
  refine Me_of [some (vr 10 0 0)] rfl (Nat.le_of_ble_eq_true rfl) (by decide) ?_
  refine Ev_aload_n dX10_term_0 rfl ?_
  refine Ev_getF 11 260 26 flX10_95 rfl dX10_term_1 ?_
  refine Ev_aload_n dX10_term_4 rfl ?_
  refine Ev_getI flX10_248 rfl dX10_term_5 ?_
  refine Ev_aload_n dX10_term_8 rfl ?_
  refine Ev_getI flX10_251 rfl dX10_term_9 ?_
  obtain ⟨g, h⟩ := h
  refine Ev_iast g dX10_term_12 ?_
  have h := h _ rfl
  refine Ev_aload_n dX10_term_13 rfl ?_
  refine Ev_getI flX10_209 rfl dX10_term_14 ?_
  refine Ev_if_ne 24 dX10_term_17 (by decide) (fun q => ?_) (fun q => ?_)
  · have h := h.1 q
    refine Ev_aload_n dX10_term_24 rfl ?_
    refine Ev_getF 11 260 27 flX10_98 rfl dX10_term_25 ?_
    refine Ev_aload_n dX10_term_28 rfl ?_
    refine Ev_getI flX10_248 rfl dX10_term_29 ?_
    refine Ev_aload_n dX10_term_32 rfl ?_
    refine Ev_getI flX10_251 rfl dX10_term_33 ?_
    obtain ⟨g, h⟩ := h
    refine Ev_iast g dX10_term_36 ?_
    have h := h _ rfl
    refine Ev_aload_n dX10_term_37 rfl ?_
    refine Ev_dup dX10_term_38 (fun _ z => by cases z) ?_
    refine Ev_getI flX10_248 rfl dX10_term_39 ?_
    refine Ev_iconst 1 dX10_term_42 (by decide) ?_
    refine Ev_iadd dX10_term_43 ?_
    refine Ev_putI .int flX10_248 fpX10_36 rfl rfl rfl dX10_term_44 ?_
    have h := h _ rfl
    subst h
    exact R_v rfl dX10_term_47
  · have h := h.2 q
    refine Ev_aload_n dX10_term_20 rfl ?_
    obtain ⟨μ4, hM5, h⟩ := h
    refine Ev_callV [] mlX10_300 rfl rfl (Nat.le_of_ble_eq_true rfl) dX10_term_21 hM5 ?_
    refine Ev_aload_n dX10_term_24 rfl ?_
    refine Ev_getF 11 260 27 flX10_98 rfl dX10_term_25 ?_
    refine Ev_aload_n dX10_term_28 rfl ?_
    refine Ev_getI flX10_248 rfl dX10_term_29 ?_
    refine Ev_aload_n dX10_term_32 rfl ?_
    refine Ev_getI flX10_251 rfl dX10_term_33 ?_
    obtain ⟨g, h⟩ := h
    refine Ev_iast g dX10_term_36 ?_
    have h := h _ rfl
    refine Ev_aload_n dX10_term_37 rfl ?_
    refine Ev_dup dX10_term_38 (fun _ z => by cases z) ?_
    refine Ev_getI flX10_248 rfl dX10_term_39 ?_
    refine Ev_iconst 1 dX10_term_42 (by decide) ?_
    refine Ev_iadd dX10_term_43 ?_
    refine Ev_putI .int flX10_248 fpX10_36 rfl rfl rfl dX10_term_44 ?_
    have h := h _ rfl
    subst h
    exact R_v rfl dX10_term_47
set_option maxHeartbeats 4000000 in
set_option maxRecDepth 100000 in
theorem X10_termOf_ok {d : Nat} {x1 : Int32} {x2 : Int32} {μ μ' : Mem} {x : Int32} (h : X10_termOf_at5 d x2 0 x1 μ x μ') : X10_termOf d x1 x2 μ x μ' := by
  refine Me_of [some (vr 10 0 0), some (vi x1), some (vi x2), none, none, none, none, none] rfl (Nat.le_of_ble_eq_true rfl) (by decide) ?_
  refine Ev_iconst 0 dX10_termOf_0 (by decide) ?_
  refine Ev_istore_n dX10_termOf_1 (Nat.le_of_ble_eq_true rfl) (okp_of rfl) ?_
  refine Ev_iload_n dX10_termOf_2 rfl ?_
  refine Ev_istore dX10_termOf_3 (Nat.le_of_ble_eq_true rfl) (okp_of rfl) ?_
  refine Ev_weak ?_ h
  exact And.intro rfl (And.intro trivial (And.intro rfl (And.intro rfl (And.intro rfl (And.intro trivial (And.intro trivial (And.intro trivial (trivial))))))))
set_option maxHeartbeats 4000000 in
set_option maxRecDepth 100000 in
theorem X10_termOf_at5_ok {d : Nat} {x2 : Int32} {x3 : Int32} {x4 : Int32} {μ μ' : Mem} {x : Int32} (h : ((x2 ≤ x4 → (x = μ.1 32 0 ∧ μ' = μ)) ∧ (¬ x2 ≤ x4 → vp_in x4 840 ∧ ((2 ≤ (μ.1 28 x4.toNatClampNeg) → vp_in ((x3 + (-1)) - 1) 400 ∧ vp_in (x3 + (-1)) 400 ∧ (((μ.1 28 x4.toNatClampNeg) ≠ 5 → (((μ.1 28 x4.toNatClampNeg) ≠ 2 → (((μ.1 28 x4.toNatClampNeg) ≠ 3 → (((μ.1 28 x4.toNatClampNeg) ≠ 4 → ¬ (μ.1 32 ((x3 + (-1)).toNatClampNeg)) = 0 ∧ vp_in ((x3 + (-1)) - 1) 400 ∧ (∀ μ1 : Mem, μ1 = sI μ 32 (((x3 + (-1)) - 1).toNatClampNeg) ((μ.1 32 (((x3 + (-1)) - 1).toNatClampNeg)) / (μ.1 32 ((x3 + (-1)).toNatClampNeg))) → X10_termOf_at5 d x2 (x3 + (-1)) (x4 + 1) μ1 x μ')) ∧ ((μ.1 28 x4.toNatClampNeg) = 4 → vp_in ((x3 + (-1)) - 1) 400 ∧ (∀ μ2 : Mem, μ2 = sI μ 32 (((x3 + (-1)) - 1).toNatClampNeg) ((μ.1 32 (((x3 + (-1)) - 1).toNatClampNeg)) * (μ.1 32 ((x3 + (-1)).toNatClampNeg))) → X10_termOf_at5 d x2 (x3 + (-1)) (x4 + 1) μ2 x μ')))) ∧ ((μ.1 28 x4.toNatClampNeg) = 3 → vp_in ((x3 + (-1)) - 1) 400 ∧ (∀ μ3 : Mem, μ3 = sI μ 32 (((x3 + (-1)) - 1).toNatClampNeg) ((μ.1 32 (((x3 + (-1)) - 1).toNatClampNeg)) - (μ.1 32 ((x3 + (-1)).toNatClampNeg))) → X10_termOf_at5 d x2 (x3 + (-1)) (x4 + 1) μ3 x μ')))) ∧ ((μ.1 28 x4.toNatClampNeg) = 2 → vp_in ((x3 + (-1)) - 1) 400 ∧ (∀ μ4 : Mem, μ4 = sI μ 32 (((x3 + (-1)) - 1).toNatClampNeg) ((μ.1 32 (((x3 + (-1)) - 1).toNatClampNeg)) + (μ.1 32 ((x3 + (-1)).toNatClampNeg))) → X10_termOf_at5 d x2 (x3 + (-1)) (x4 + 1) μ4 x μ')))) ∧ ((μ.1 28 x4.toNatClampNeg) = 5 → (((μ.1 32 ((x3 + (-1)).toNatClampNeg)) ≠ 0 → (((μ.1 28 x4.toNatClampNeg) ≠ 2 → (((μ.1 28 x4.toNatClampNeg) ≠ 3 → (((μ.1 28 x4.toNatClampNeg) ≠ 4 → ¬ (μ.1 32 ((x3 + (-1)).toNatClampNeg)) = 0 ∧ vp_in ((x3 + (-1)) - 1) 400 ∧ (∀ μ5 : Mem, μ5 = sI μ 32 (((x3 + (-1)) - 1).toNatClampNeg) ((μ.1 32 (((x3 + (-1)) - 1).toNatClampNeg)) / (μ.1 32 ((x3 + (-1)).toNatClampNeg))) → X10_termOf_at5 d x2 (x3 + (-1)) (x4 + 1) μ5 x μ')) ∧ ((μ.1 28 x4.toNatClampNeg) = 4 → vp_in ((x3 + (-1)) - 1) 400 ∧ (∀ μ6 : Mem, μ6 = sI μ 32 (((x3 + (-1)) - 1).toNatClampNeg) ((μ.1 32 (((x3 + (-1)) - 1).toNatClampNeg)) * (μ.1 32 ((x3 + (-1)).toNatClampNeg))) → X10_termOf_at5 d x2 (x3 + (-1)) (x4 + 1) μ6 x μ')))) ∧ ((μ.1 28 x4.toNatClampNeg) = 3 → vp_in ((x3 + (-1)) - 1) 400 ∧ (∀ μ7 : Mem, μ7 = sI μ 32 (((x3 + (-1)) - 1).toNatClampNeg) ((μ.1 32 (((x3 + (-1)) - 1).toNatClampNeg)) - (μ.1 32 ((x3 + (-1)).toNatClampNeg))) → X10_termOf_at5 d x2 (x3 + (-1)) (x4 + 1) μ7 x μ')))) ∧ ((μ.1 28 x4.toNatClampNeg) = 2 → vp_in ((x3 + (-1)) - 1) 400 ∧ (∀ μ8 : Mem, μ8 = sI μ 32 (((x3 + (-1)) - 1).toNatClampNeg) ((μ.1 32 (((x3 + (-1)) - 1).toNatClampNeg)) + (μ.1 32 ((x3 + (-1)).toNatClampNeg))) → X10_termOf_at5 d x2 (x3 + (-1)) (x4 + 1) μ8 x μ')))) ∧ ((μ.1 32 ((x3 + (-1)).toNatClampNeg)) = 0 → (∀ μ9 : Mem, μ9 = sI μ 0 49 1 → (x = 0 ∧ μ' = μ9))))))) ∧ (¬ 2 ≤ (μ.1 28 x4.toNatClampNeg) → (((μ.1 28 x4.toNatClampNeg) ≠ 0 → vp_in x4 840 ∧ vp_in (μ.1 29 x4.toNatClampNeg) 9 ∧ vp_in x3 400 ∧ (∀ μ10 : Mem, μ10 = sI μ 32 x3.toNatClampNeg (μ.1 31 ((μ.1 29 x4.toNatClampNeg).toNatClampNeg)) → X10_termOf_at5 d x2 (x3 + 1) (x4 + 1) μ10 x μ')) ∧ ((μ.1 28 x4.toNatClampNeg) = 0 → vp_in x4 840 ∧ vp_in x3 400 ∧ (∀ μ11 : Mem, μ11 = sI μ 32 x3.toNatClampNeg (μ.1 29 x4.toNatClampNeg) → X10_termOf_at5 d x2 (x3 + 1) (x4 + 1) μ11 x μ')))))))) : X10_termOf_at5 d x2 x3 x4 μ x μ' := by
  refine Ev_iload dX10_termOf_5 rfl ?_
  refine Ev_iload_n dX10_termOf_7 rfl ?_
  refine Ev_icmp_ge 165 dX10_termOf_8 (by decide) (fun q => ?_) (fun q => ?_)
  · have h := h.1 q
    refine Ev_aload_n dX10_termOf_165 rfl ?_
    refine Ev_getF 11 400 32 flX10_113 rfl dX10_termOf_166 ?_
    refine Ev_iconst 0 dX10_termOf_169 (by decide) ?_
    refine Ev_iald (n := 400) (vp_lit (by decide)) dX10_termOf_170 ?_
    obtain ⟨rfl, rfl⟩ := h
    exact R_i rfl dX10_termOf_171 rfl
  · have h := h.2 q
    refine Ev_aload_n dX10_termOf_11 rfl ?_
    refine Ev_getF 11 840 28 flX10_101 rfl dX10_termOf_12 ?_
    refine Ev_iload dX10_termOf_15 rfl ?_
    obtain ⟨g, h⟩ := h
    refine Ev_iald g dX10_termOf_17 ?_
    refine Ev_istore dX10_termOf_18 (Nat.le_of_ble_eq_true rfl) (okp_of rfl) ?_
    refine Ev_iload dX10_termOf_20 rfl ?_
    refine Ev_iconst 2 dX10_termOf_22 (by decide) ?_
    refine Ev_icmp_ge 65 dX10_termOf_23 (by decide) (fun q => ?_) (fun q => ?_)
    · have h := h.1 q
      refine Ev_iinc (x3 + (-1)) dX10_termOf_65 rfl rfl (okp_of rfl) ?_
      refine Ev_aload_n dX10_termOf_68 rfl ?_
      refine Ev_getF 11 400 32 flX10_113 rfl dX10_termOf_69 ?_
      refine Ev_iload_n dX10_termOf_72 rfl ?_
      refine Ev_iconst 1 dX10_termOf_73 (by decide) ?_
      refine Ev_isub dX10_termOf_74 ?_
      obtain ⟨g, h⟩ := h
      refine Ev_iald g dX10_termOf_75 ?_
      refine Ev_istore dX10_termOf_76 (Nat.le_of_ble_eq_true rfl) (okp_of rfl) ?_
      refine Ev_aload_n dX10_termOf_78 rfl ?_
      refine Ev_getF 11 400 32 flX10_113 rfl dX10_termOf_79 ?_
      refine Ev_iload_n dX10_termOf_82 rfl ?_
      obtain ⟨g, h⟩ := h
      refine Ev_iald g dX10_termOf_83 ?_
      refine Ev_istore dX10_termOf_84 (Nat.le_of_ble_eq_true rfl) (okp_of rfl) ?_
      refine Ev_iload dX10_termOf_86 rfl ?_
      refine Ev_iconst 5 dX10_termOf_88 (by decide) ?_
      refine Ev_icmp_ne 104 dX10_termOf_89 (by decide) (fun q => ?_) (fun q => ?_)
      · have h := h.1 q
        refine Ev_aload_n dX10_termOf_104 rfl ?_
        refine Ev_getF 11 400 32 flX10_113 rfl dX10_termOf_105 ?_
        refine Ev_iload_n dX10_termOf_108 rfl ?_
        refine Ev_iconst 1 dX10_termOf_109 (by decide) ?_
        refine Ev_isub dX10_termOf_110 ?_
        refine Ev_iload dX10_termOf_111 rfl ?_
        refine Ev_iconst 2 dX10_termOf_113 (by decide) ?_
        refine Ev_icmp_ne 125 dX10_termOf_114 (by decide) (fun q => ?_) (fun q => ?_)
        · have h := h.1 q
          refine Ev_iload dX10_termOf_125 rfl ?_
          refine Ev_iconst 3 dX10_termOf_127 (by decide) ?_
          refine Ev_icmp_ne 139 dX10_termOf_128 (by decide) (fun q => ?_) (fun q => ?_)
          · have h := h.1 q
            refine Ev_iload dX10_termOf_139 rfl ?_
            refine Ev_iconst 4 dX10_termOf_141 (by decide) ?_
            refine Ev_icmp_ne 153 dX10_termOf_142 (by decide) (fun q => ?_) (fun q => ?_)
            · have h := h.1 q
              refine Ev_iload dX10_termOf_153 rfl ?_
              refine Ev_iload dX10_termOf_155 rfl ?_
              obtain ⟨g, h⟩ := h
              refine Ev_idiv dX10_termOf_157 g ?_
              obtain ⟨g, h⟩ := h
              refine Ev_iast g dX10_termOf_158 ?_
              have h := h _ rfl
              refine Ev_iinc (x4 + 1) dX10_termOf_159 rfl rfl (okp_of rfl) ?_
              refine Ev_goto 5 dX10_termOf_162 (by decide) ?_
              refine Ev_weak ?_ h
              exact And.intro rfl (And.intro trivial (And.intro rfl (And.intro rfl (And.intro rfl (And.intro trivial (And.intro trivial (And.intro trivial (trivial))))))))
            · have h := h.2 q
              refine Ev_iload dX10_termOf_145 rfl ?_
              refine Ev_iload dX10_termOf_147 rfl ?_
              refine Ev_imul dX10_termOf_149 ?_
              refine Ev_goto 158 dX10_termOf_150 (by decide) ?_
              obtain ⟨g, h⟩ := h
              refine Ev_iast g dX10_termOf_158 ?_
              have h := h _ rfl
              refine Ev_iinc (x4 + 1) dX10_termOf_159 rfl rfl (okp_of rfl) ?_
              refine Ev_goto 5 dX10_termOf_162 (by decide) ?_
              refine Ev_weak ?_ h
              exact And.intro rfl (And.intro trivial (And.intro rfl (And.intro rfl (And.intro rfl (And.intro trivial (And.intro trivial (And.intro trivial (trivial))))))))
          · have h := h.2 q
            refine Ev_iload dX10_termOf_131 rfl ?_
            refine Ev_iload dX10_termOf_133 rfl ?_
            refine Ev_isub dX10_termOf_135 ?_
            refine Ev_goto 158 dX10_termOf_136 (by decide) ?_
            obtain ⟨g, h⟩ := h
            refine Ev_iast g dX10_termOf_158 ?_
            have h := h _ rfl
            refine Ev_iinc (x4 + 1) dX10_termOf_159 rfl rfl (okp_of rfl) ?_
            refine Ev_goto 5 dX10_termOf_162 (by decide) ?_
            refine Ev_weak ?_ h
            exact And.intro rfl (And.intro trivial (And.intro rfl (And.intro rfl (And.intro rfl (And.intro trivial (And.intro trivial (And.intro trivial (trivial))))))))
        · have h := h.2 q
          refine Ev_iload dX10_termOf_117 rfl ?_
          refine Ev_iload dX10_termOf_119 rfl ?_
          refine Ev_iadd dX10_termOf_121 ?_
          refine Ev_goto 158 dX10_termOf_122 (by decide) ?_
          obtain ⟨g, h⟩ := h
          refine Ev_iast g dX10_termOf_158 ?_
          have h := h _ rfl
          refine Ev_iinc (x4 + 1) dX10_termOf_159 rfl rfl (okp_of rfl) ?_
          refine Ev_goto 5 dX10_termOf_162 (by decide) ?_
          refine Ev_weak ?_ h
          exact And.intro rfl (And.intro trivial (And.intro rfl (And.intro rfl (And.intro rfl (And.intro trivial (And.intro trivial (And.intro trivial (trivial))))))))
      · have h := h.2 q
        refine Ev_iload dX10_termOf_92 rfl ?_
        refine Ev_if_ne 104 dX10_termOf_94 (by decide) (fun q => ?_) (fun q => ?_)
        · have h := h.1 q
          refine Ev_aload_n dX10_termOf_104 rfl ?_
          refine Ev_getF 11 400 32 flX10_113 rfl dX10_termOf_105 ?_
          refine Ev_iload_n dX10_termOf_108 rfl ?_
          refine Ev_iconst 1 dX10_termOf_109 (by decide) ?_
          refine Ev_isub dX10_termOf_110 ?_
          refine Ev_iload dX10_termOf_111 rfl ?_
          refine Ev_iconst 2 dX10_termOf_113 (by decide) ?_
          refine Ev_icmp_ne 125 dX10_termOf_114 (by decide) (fun q => ?_) (fun q => ?_)
          · have h := h.1 q
            refine Ev_iload dX10_termOf_125 rfl ?_
            refine Ev_iconst 3 dX10_termOf_127 (by decide) ?_
            refine Ev_icmp_ne 139 dX10_termOf_128 (by decide) (fun q => ?_) (fun q => ?_)
            · have h := h.1 q
              refine Ev_iload dX10_termOf_139 rfl ?_
              refine Ev_iconst 4 dX10_termOf_141 (by decide) ?_
              refine Ev_icmp_ne 153 dX10_termOf_142 (by decide) (fun q => ?_) (fun q => ?_)
              · have h := h.1 q
                refine Ev_iload dX10_termOf_153 rfl ?_
                refine Ev_iload dX10_termOf_155 rfl ?_
                obtain ⟨g, h⟩ := h
                refine Ev_idiv dX10_termOf_157 g ?_
                obtain ⟨g, h⟩ := h
                refine Ev_iast g dX10_termOf_158 ?_
                have h := h _ rfl
                refine Ev_iinc (x4 + 1) dX10_termOf_159 rfl rfl (okp_of rfl) ?_
                refine Ev_goto 5 dX10_termOf_162 (by decide) ?_
                refine Ev_weak ?_ h
                exact And.intro rfl (And.intro trivial (And.intro rfl (And.intro rfl (And.intro rfl (And.intro trivial (And.intro trivial (And.intro trivial (trivial))))))))
              · have h := h.2 q
                refine Ev_iload dX10_termOf_145 rfl ?_
                refine Ev_iload dX10_termOf_147 rfl ?_
                refine Ev_imul dX10_termOf_149 ?_
                refine Ev_goto 158 dX10_termOf_150 (by decide) ?_
                obtain ⟨g, h⟩ := h
                refine Ev_iast g dX10_termOf_158 ?_
                have h := h _ rfl
                refine Ev_iinc (x4 + 1) dX10_termOf_159 rfl rfl (okp_of rfl) ?_
                refine Ev_goto 5 dX10_termOf_162 (by decide) ?_
                refine Ev_weak ?_ h
                exact And.intro rfl (And.intro trivial (And.intro rfl (And.intro rfl (And.intro rfl (And.intro trivial (And.intro trivial (And.intro trivial (trivial))))))))
            · have h := h.2 q
              refine Ev_iload dX10_termOf_131 rfl ?_
              refine Ev_iload dX10_termOf_133 rfl ?_
              refine Ev_isub dX10_termOf_135 ?_
              refine Ev_goto 158 dX10_termOf_136 (by decide) ?_
              obtain ⟨g, h⟩ := h
              refine Ev_iast g dX10_termOf_158 ?_
              have h := h _ rfl
              refine Ev_iinc (x4 + 1) dX10_termOf_159 rfl rfl (okp_of rfl) ?_
              refine Ev_goto 5 dX10_termOf_162 (by decide) ?_
              refine Ev_weak ?_ h
              exact And.intro rfl (And.intro trivial (And.intro rfl (And.intro rfl (And.intro rfl (And.intro trivial (And.intro trivial (And.intro trivial (trivial))))))))
          · have h := h.2 q
            refine Ev_iload dX10_termOf_117 rfl ?_
            refine Ev_iload dX10_termOf_119 rfl ?_
            refine Ev_iadd dX10_termOf_121 ?_
            refine Ev_goto 158 dX10_termOf_122 (by decide) ?_
            obtain ⟨g, h⟩ := h
            refine Ev_iast g dX10_termOf_158 ?_
            have h := h _ rfl
            refine Ev_iinc (x4 + 1) dX10_termOf_159 rfl rfl (okp_of rfl) ?_
            refine Ev_goto 5 dX10_termOf_162 (by decide) ?_
            refine Ev_weak ?_ h
            exact And.intro rfl (And.intro trivial (And.intro rfl (And.intro rfl (And.intro rfl (And.intro trivial (And.intro trivial (And.intro trivial (trivial))))))))
        · have h := h.2 q
          refine Ev_aload_n dX10_termOf_97 rfl ?_
          refine Ev_iconst 1 dX10_termOf_98 (by decide) ?_
          refine Ev_putI .boolean flX10_319 fpX10_49 rfl rfl rfl dX10_termOf_99 ?_
          have h := h _ rfl
          refine Ev_iconst 0 dX10_termOf_102 (by decide) ?_
          obtain ⟨rfl, rfl⟩ := h
          exact R_i rfl dX10_termOf_103 rfl
    · have h := h.2 q
      refine Ev_aload_n dX10_termOf_26 rfl ?_
      refine Ev_getF 11 400 32 flX10_113 rfl dX10_termOf_27 ?_
      refine Ev_iload_n dX10_termOf_30 rfl ?_
      refine Ev_iload dX10_termOf_31 rfl ?_
      refine Ev_if_ne 46 dX10_termOf_33 (by decide) (fun q => ?_) (fun q => ?_)
      · have h := h.1 q
        refine Ev_aload_n dX10_termOf_46 rfl ?_
        refine Ev_getF 11 9 31 flX10_110 rfl dX10_termOf_47 ?_
        refine Ev_aload_n dX10_termOf_50 rfl ?_
        refine Ev_getF 11 840 29 flX10_104 rfl dX10_termOf_51 ?_
        refine Ev_iload dX10_termOf_54 rfl ?_
        obtain ⟨g, h⟩ := h
        refine Ev_iald g dX10_termOf_56 ?_
        obtain ⟨g, h⟩ := h
        refine Ev_iald g dX10_termOf_57 ?_
        obtain ⟨g, h⟩ := h
        refine Ev_iast g dX10_termOf_58 ?_
        have h := h _ rfl
        refine Ev_iinc (x3 + 1) dX10_termOf_59 rfl rfl (okp_of rfl) ?_
        refine Ev_goto 159 dX10_termOf_62 (by decide) ?_
        refine Ev_iinc (x4 + 1) dX10_termOf_159 rfl rfl (okp_of rfl) ?_
        refine Ev_goto 5 dX10_termOf_162 (by decide) ?_
        refine Ev_weak ?_ h
        exact And.intro rfl (And.intro trivial (And.intro rfl (And.intro rfl (And.intro rfl (And.intro trivial (And.intro trivial (And.intro trivial (trivial))))))))
      · have h := h.2 q
        refine Ev_aload_n dX10_termOf_36 rfl ?_
        refine Ev_getF 11 840 29 flX10_104 rfl dX10_termOf_37 ?_
        refine Ev_iload dX10_termOf_40 rfl ?_
        obtain ⟨g, h⟩ := h
        refine Ev_iald g dX10_termOf_42 ?_
        refine Ev_goto 58 dX10_termOf_43 (by decide) ?_
        obtain ⟨g, h⟩ := h
        refine Ev_iast g dX10_termOf_58 ?_
        have h := h _ rfl
        refine Ev_iinc (x3 + 1) dX10_termOf_59 rfl rfl (okp_of rfl) ?_
        refine Ev_goto 159 dX10_termOf_62 (by decide) ?_
        refine Ev_iinc (x4 + 1) dX10_termOf_159 rfl rfl (okp_of rfl) ?_
        refine Ev_goto 5 dX10_termOf_162 (by decide) ?_
        refine Ev_weak ?_ h
        exact And.intro rfl (And.intro trivial (And.intro rfl (And.intro rfl (And.intro rfl (And.intro trivial (And.intro trivial (And.intro trivial (trivial))))))))
set_option maxHeartbeats 4000000 in
set_option maxRecDepth 100000 in
theorem X10_then_ok {d : Nat} {x1 : Int32} {x2 : Int32} {x3 : Int32} {μ μ' : Mem} {x : Int32} (h : (∃ (y3 : Int32) (μ1 : Mem), X10_isCell d x1 x2 μ y3 μ1 ∧ ((y3 = 0 → (x = (-1) ∧ μ' = μ1)) ∧ (¬ y3 = 0 → (∃ (y6 : Int32) (μ4 : Mem), X10_isLong d x3 μ1 y6 μ4 ∧ ((y6 ≠ 0 → (∃ (μ7 : Mem), X10_copies d μ4 μ7 ∧ (∃ (μ9 : Mem), X10_goes d x3 μ7 μ9 ∧ vp_in ((8 * x2) + x1) 92 ∧ (x = μ9.1 34 (((8 * x2) + x1).toNatClampNeg) ∧ μ' = μ9)))) ∧ (y6 = 0 → (x = (-1) ∧ μ' = μ4)))))))) : X10_then (d + 1) x1 x2 x3 μ x μ' := by
  refine Me_of [some (vr 10 0 0), some (vi x1), some (vi x2), some (vi x3)] rfl (Nat.le_of_ble_eq_true rfl) (by decide) ?_
  refine Ev_aload_n dX10_then_0 rfl ?_
  refine Ev_iload_n dX10_then_1 rfl ?_
  refine Ev_iload_n dX10_then_2 rfl ?_
  obtain ⟨y3, μ1, hM2, h⟩ := h
  refine Ev_callV [_, _] mlX10_343 rfl rfl (Nat.le_of_ble_eq_true rfl) dX10_then_3 hM2 ?_
  refine Ev_if_eq 16 dX10_then_6 (by decide) (fun q => ?_) (fun q => ?_)
  · have h := h.1 q
    refine Ev_iconst (-1) dX10_then_16 (by decide) ?_
    obtain ⟨rfl, rfl⟩ := h
    exact R_i rfl dX10_then_17 rfl
  · have h := h.2 q
    refine Ev_iload_n dX10_then_9 rfl ?_
    obtain ⟨y6, μ4, hM5, h⟩ := h
    refine Ev_callS [_] mlX10_442 rfl rfl (Nat.le_of_ble_eq_true rfl) dX10_then_10 hM5 ?_
    refine Ev_if_ne 18 dX10_then_13 (by decide) (fun q => ?_) (fun q => ?_)
    · have h := h.1 q
      refine Ev_aload_n dX10_then_18 rfl ?_
      obtain ⟨μ7, hM8, h⟩ := h
      refine Ev_callV [] mlX10_381 rfl rfl (Nat.le_of_ble_eq_true rfl) dX10_then_19 hM8 ?_
      refine Ev_aload_n dX10_then_22 rfl ?_
      refine Ev_iload_n dX10_then_23 rfl ?_
      obtain ⟨μ9, hM10, h⟩ := h
      refine Ev_callV [_] mlX10_402 rfl rfl (Nat.le_of_ble_eq_true rfl) dX10_then_24 hM10 ?_
      refine Ev_aload_n dX10_then_27 rfl ?_
      refine Ev_getF 11 92 34 flX10_119 rfl dX10_then_28 ?_
      refine Ev_bipush 8 dX10_then_31 (by decide) ?_
      refine Ev_iload_n dX10_then_33 rfl ?_
      refine Ev_imul dX10_then_34 ?_
      refine Ev_iload_n dX10_then_35 rfl ?_
      refine Ev_iadd dX10_then_36 ?_
      obtain ⟨g, h⟩ := h
      refine Ev_iald g dX10_then_37 ?_
      obtain ⟨rfl, rfl⟩ := h
      exact R_i rfl dX10_then_38 rfl
    · have h := h.2 q
      refine Ev_iconst (-1) dX10_then_16 (by decide) ?_
      obtain ⟨rfl, rfl⟩ := h
      exact R_i rfl dX10_then_17 rfl
set_option maxHeartbeats 4000000 in
set_option maxRecDepth 100000 in
theorem X10_thread_ok {d : Nat} {x1 : Int32} {x2 : Int32} {x3 : Int32} {μ μ' : Mem} {x : Int32} (h : (∃ (y3 : Int32) (μ1 : Mem), X10_isLoom d x1 μ y3 μ1 ∧ ((y3 = 0 → (x = (-1) ∧ μ' = μ1)) ∧ (¬ y3 = 0 → vp_in ((4 * (μ1.1 0 18)) + x1) 8 ∧ (∃ (y6 : Int32) (μ4 : Mem), X10_in d x2 0 ((μ1.1 16 (((4 * (μ1.1 0 18)) + x1).toNatClampNeg)) - 1) μ1 y6 μ4 ∧ ((y6 = 0 → (x = (-1) ∧ μ' = μ4)) ∧ (¬ y6 = 0 → (∃ (y9 : Int32) (μ7 : Mem), X10_in d x3 0 9999 μ4 y9 μ7 ∧ ((y9 ≠ 0 → (∃ (y12 : Int32) (μ10 : Mem), X10_threadOf d x1 x2 x3 μ7 y12 μ10 ∧ (x = y12 ∧ μ' = μ10))) ∧ (y9 = 0 → (x = (-1) ∧ μ' = μ7))))))))))) : X10_thread (d + 1) x1 x2 x3 μ x μ' := by
  refine Me_of [some (vr 10 0 0), some (vi x1), some (vi x2), some (vi x3)] rfl (Nat.le_of_ble_eq_true rfl) (by decide) ?_
  refine Ev_aload_n dX10_thread_0 rfl ?_
  refine Ev_iload_n dX10_thread_1 rfl ?_
  obtain ⟨y3, μ1, hM2, h⟩ := h
  refine Ev_callV [_] mlX10_393 rfl rfl (Nat.le_of_ble_eq_true rfl) dX10_thread_2 hM2 ?_
  refine Ev_if_eq 42 dX10_thread_5 (by decide) (fun q => ?_) (fun q => ?_)
  · have h := h.1 q
    refine Ev_iconst (-1) dX10_thread_42 (by decide) ?_
    obtain ⟨rfl, rfl⟩ := h
    exact R_i rfl dX10_thread_43 rfl
  · have h := h.2 q
    refine Ev_iload_n dX10_thread_8 rfl ?_
    refine Ev_iconst 0 dX10_thread_9 (by decide) ?_
    refine Ev_aload_n dX10_thread_10 rfl ?_
    refine Ev_getF 11 8 16 flX10_64 rfl dX10_thread_11 ?_
    refine Ev_iconst 4 dX10_thread_14 (by decide) ?_
    refine Ev_aload_n dX10_thread_15 rfl ?_
    refine Ev_getI flX10_239 rfl dX10_thread_16 ?_
    refine Ev_imul dX10_thread_19 ?_
    refine Ev_iload_n dX10_thread_20 rfl ?_
    refine Ev_iadd dX10_thread_21 ?_
    obtain ⟨g, h⟩ := h
    refine Ev_iald g dX10_thread_22 ?_
    refine Ev_iconst 1 dX10_thread_23 (by decide) ?_
    refine Ev_isub dX10_thread_24 ?_
    obtain ⟨y6, μ4, hM5, h⟩ := h
    refine Ev_callS [_, _, _] mlX10_323 rfl rfl (Nat.le_of_ble_eq_true rfl) dX10_thread_25 hM5 ?_
    refine Ev_if_eq 42 dX10_thread_28 (by decide) (fun q => ?_) (fun q => ?_)
    · have h := h.1 q
      refine Ev_iconst (-1) dX10_thread_42 (by decide) ?_
      obtain ⟨rfl, rfl⟩ := h
      exact R_i rfl dX10_thread_43 rfl
    · have h := h.2 q
      refine Ev_iload_n dX10_thread_31 rfl ?_
      refine Ev_iconst 0 dX10_thread_32 (by decide) ?_
      refine Ev_sipush 9999 dX10_thread_33 (by decide) ?_
      obtain ⟨y9, μ7, hM8, h⟩ := h
      refine Ev_callS [_, _, _] mlX10_323 rfl rfl (Nat.le_of_ble_eq_true rfl) dX10_thread_36 hM8 ?_
      refine Ev_if_ne 44 dX10_thread_39 (by decide) (fun q => ?_) (fun q => ?_)
      · have h := h.1 q
        refine Ev_aload_n dX10_thread_44 rfl ?_
        refine Ev_iload_n dX10_thread_45 rfl ?_
        refine Ev_iload_n dX10_thread_46 rfl ?_
        refine Ev_iload_n dX10_thread_47 rfl ?_
        obtain ⟨y12, μ10, hM11, h⟩ := h
        refine Ev_callV [_, _, _] mlX10_356 rfl rfl (Nat.le_of_ble_eq_true rfl) dX10_thread_48 hM11 ?_
        obtain ⟨rfl, rfl⟩ := h
        exact R_i rfl dX10_thread_51 rfl
      · have h := h.2 q
        refine Ev_iconst (-1) dX10_thread_42 (by decide) ?_
        obtain ⟨rfl, rfl⟩ := h
        exact R_i rfl dX10_thread_43 rfl
set_option maxHeartbeats 4000000 in
set_option maxRecDepth 100000 in
theorem X10_threadOf_ok {d : Nat} {x1 : Int32} {x2 : Int32} {x3 : Int32} {μ μ' : Mem} {x : Int32} (h : (∃ (μ1 : Mem), X10_looks d μ μ1 ∧ (∀ μ3 : Mem, μ3 = sI μ1 31 0 (x3 - x3 / 4 * 4) → (∀ μ4 : Mem, μ4 = sI μ3 31 1 x2 → (∀ μ5 : Mem, μ5 = sI μ4 31 2 x3 → (∀ μ6 : Mem, μ6 = sI μ5 31 7 x1 → vp_in ((4 * (μ6.1 0 18)) + x1) 8 ∧ (∀ μ7 : Mem, μ7 = sI μ6 31 8 (μ6.1 16 (((4 * (μ6.1 0 18)) + x1).toNatClampNeg)) → (∃ (y10 : Int32) (μ8 : Mem), X10_asks d 0 1 9 μ7 y10 μ8 ∧ (x = y10 ∧ μ' = μ8))))))))) : X10_threadOf (d + 1) x1 x2 x3 μ x μ' := by
  refine Me_of [some (vr 10 0 0), some (vi x1), some (vi x2), some (vi x3)] rfl (Nat.le_of_ble_eq_true rfl) (by decide) ?_
  refine Ev_aload_n dX10_threadOf_0 rfl ?_
  obtain ⟨μ1, hM2, h⟩ := h
  refine Ev_callV [] mlX10_337 rfl rfl (Nat.le_of_ble_eq_true rfl) dX10_threadOf_1 hM2 ?_
  refine Ev_aload_n dX10_threadOf_4 rfl ?_
  refine Ev_getF 11 9 31 flX10_110 rfl dX10_threadOf_5 ?_
  refine Ev_iconst 0 dX10_threadOf_8 (by decide) ?_
  refine Ev_iload_n dX10_threadOf_9 rfl ?_
  refine Ev_iconst 4 dX10_threadOf_10 (by decide) ?_
  refine Ev_irem dX10_threadOf_11 (by decide) ?_
  refine Ev_iast (n := 9) (vp_lit (by decide)) dX10_threadOf_12 ?_
  have h := h _ rfl
  refine Ev_aload_n dX10_threadOf_13 rfl ?_
  refine Ev_getF 11 9 31 flX10_110 rfl dX10_threadOf_14 ?_
  refine Ev_iconst 1 dX10_threadOf_17 (by decide) ?_
  refine Ev_iload_n dX10_threadOf_18 rfl ?_
  refine Ev_iast (n := 9) (vp_lit (by decide)) dX10_threadOf_19 ?_
  have h := h _ rfl
  refine Ev_aload_n dX10_threadOf_20 rfl ?_
  refine Ev_getF 11 9 31 flX10_110 rfl dX10_threadOf_21 ?_
  refine Ev_iconst 2 dX10_threadOf_24 (by decide) ?_
  refine Ev_iload_n dX10_threadOf_25 rfl ?_
  refine Ev_iast (n := 9) (vp_lit (by decide)) dX10_threadOf_26 ?_
  have h := h _ rfl
  refine Ev_aload_n dX10_threadOf_27 rfl ?_
  refine Ev_getF 11 9 31 flX10_110 rfl dX10_threadOf_28 ?_
  refine Ev_bipush 7 dX10_threadOf_31 (by decide) ?_
  refine Ev_iload_n dX10_threadOf_33 rfl ?_
  refine Ev_iast (n := 9) (vp_lit (by decide)) dX10_threadOf_34 ?_
  have h := h _ rfl
  refine Ev_aload_n dX10_threadOf_35 rfl ?_
  refine Ev_getF 11 9 31 flX10_110 rfl dX10_threadOf_36 ?_
  refine Ev_bipush 8 dX10_threadOf_39 (by decide) ?_
  refine Ev_aload_n dX10_threadOf_41 rfl ?_
  refine Ev_getF 11 8 16 flX10_64 rfl dX10_threadOf_42 ?_
  refine Ev_iconst 4 dX10_threadOf_45 (by decide) ?_
  refine Ev_aload_n dX10_threadOf_46 rfl ?_
  refine Ev_getI flX10_239 rfl dX10_threadOf_47 ?_
  refine Ev_imul dX10_threadOf_50 ?_
  refine Ev_iload_n dX10_threadOf_51 rfl ?_
  refine Ev_iadd dX10_threadOf_52 ?_
  obtain ⟨g, h⟩ := h
  refine Ev_iald g dX10_threadOf_53 ?_
  refine Ev_iast (n := 9) (vp_lit (by decide)) dX10_threadOf_54 ?_
  have h := h _ rfl
  refine Ev_aload_n dX10_threadOf_55 rfl ?_
  refine Ev_iconst 0 dX10_threadOf_56 (by decide) ?_
  refine Ev_iconst 1 dX10_threadOf_57 (by decide) ?_
  refine Ev_bipush 9 dX10_threadOf_58 (by decide) ?_
  obtain ⟨y10, μ8, hM9, h⟩ := h
  refine Ev_callV [_, _, _] mlX10_340 rfl rfl (Nat.le_of_ble_eq_true rfl) dX10_threadOf_60 hM9 ?_
  obtain ⟨rfl, rfl⟩ := h
  exact R_i rfl dX10_threadOf_63 rfl
set_option maxHeartbeats 4000000 in
set_option maxRecDepth 100000 in
theorem X10_token_ok {d : Nat} {x1 : Int32} {x2 : Int32} {x3 : Int32} {x4 : Int64} {μ μ' : Mem} (h : vp_in (μ.1 0 10) 403 ∧ (∀ μ1 : Mem, μ1 = sI μ 3 ((μ.1 0 10).toNatClampNeg) x1 → vp_in (μ1.1 0 10) 403 ∧ (∀ μ2 : Mem, μ2 = sI μ1 4 ((μ1.1 0 10).toNatClampNeg) x2 → vp_in (μ2.1 0 10) 403 ∧ (∀ μ3 : Mem, μ3 = sI μ2 5 ((μ2.1 0 10).toNatClampNeg) x3 → vp_in (μ3.1 0 10) 403 ∧ (∀ μ4 : Mem, μ4 = sJ μ3 6 ((μ3.1 0 10).toNatClampNeg) x4 → (∀ μ5 : Mem, μ5 = sI μ4 0 10 ((μ4.1 0 10) + 1) → μ' = μ5)))))) : X10_token d x1 x2 x3 x4 μ μ' := by
  refine Me_of [some (vr 10 0 0), some (vi x1), some (vi x2), some (vi x3), some (vl x4), none] rfl (Nat.le_of_ble_eq_true rfl) (by decide) ?_
  refine Ev_aload_n dX10_token_0 rfl ?_
  refine Ev_getF 11 403 3 flX10_20 rfl dX10_token_1 ?_
  refine Ev_aload_n dX10_token_4 rfl ?_
  refine Ev_getI flX10_187 rfl dX10_token_5 ?_
  refine Ev_iload_n dX10_token_8 rfl ?_
  obtain ⟨g, h⟩ := h
  refine Ev_iast g dX10_token_9 ?_
  have h := h _ rfl
  refine Ev_aload_n dX10_token_10 rfl ?_
  refine Ev_getF 11 403 4 flX10_24 rfl dX10_token_11 ?_
  refine Ev_aload_n dX10_token_14 rfl ?_
  refine Ev_getI flX10_187 rfl dX10_token_15 ?_
  refine Ev_iload_n dX10_token_18 rfl ?_
  obtain ⟨g, h⟩ := h
  refine Ev_iast g dX10_token_19 ?_
  have h := h _ rfl
  refine Ev_aload_n dX10_token_20 rfl ?_
  refine Ev_getF 11 403 5 flX10_27 rfl dX10_token_21 ?_
  refine Ev_aload_n dX10_token_24 rfl ?_
  refine Ev_getI flX10_187 rfl dX10_token_25 ?_
  refine Ev_iload_n dX10_token_28 rfl ?_
  obtain ⟨g, h⟩ := h
  refine Ev_iast g dX10_token_29 ?_
  have h := h _ rfl
  refine Ev_aload_n dX10_token_30 rfl ?_
  refine Ev_getF 13 403 6 flX10_30 rfl dX10_token_31 ?_
  refine Ev_aload_n dX10_token_34 rfl ?_
  refine Ev_getI flX10_187 rfl dX10_token_35 ?_
  refine Ev_lload dX10_token_38 rfl ?_
  obtain ⟨g, h⟩ := h
  refine Ev_last g dX10_token_40 ?_
  have h := h _ rfl
  refine Ev_aload_n dX10_token_41 rfl ?_
  refine Ev_dup dX10_token_42 (fun _ z => by cases z) ?_
  refine Ev_getI flX10_187 rfl dX10_token_43 ?_
  refine Ev_iconst 1 dX10_token_46 (by decide) ?_
  refine Ev_iadd dX10_token_47 ?_
  refine Ev_putI .int flX10_187 fpX10_10 rfl rfl rfl dX10_token_48 ?_
  have h := h _ rfl
  subst h
  exact R_v rfl dX10_token_51
set_option maxHeartbeats 4000000 in
set_option maxRecDepth 100000 in
theorem X10_turn_ok {d : Nat} {x1 : Int32} {x2 : Int32} {μ μ' : Mem} {x : Int32} (h : (∃ (y3 : Int32) (μ1 : Mem), X10_isLoom d x1 μ y3 μ1 ∧ ((y3 = 0 → (x = (-1) ∧ μ' = μ1)) ∧ (¬ y3 = 0 → (∃ (y6 : Int32) (μ4 : Mem), X10_in d x2 1 99 μ1 y6 μ4 ∧ ((y6 ≠ 0 → (∃ (μ7 : Mem), X10_copies d μ4 μ7 ∧ vp_in (48 + x1) 92 ∧ vp_in (48 + x1) 92 ∧ (∀ μ9 : Mem, μ9 = sI μ7 34 ((48 + x1).toNatClampNeg) ((μ7.1 34 ((48 + x1).toNatClampNeg)) + x2) → (∃ (μ10 : Mem), X10_keeps d μ9 μ10 ∧ vp_in (48 + x1) 92 ∧ (x = μ10.1 33 ((48 + x1).toNatClampNeg) ∧ μ' = μ10))))) ∧ (y6 = 0 → (x = (-1) ∧ μ' = μ4)))))))) : X10_turn (d + 1) x1 x2 μ x μ' := by
  refine Me_of [some (vr 10 0 0), some (vi x1), some (vi x2)] rfl (Nat.le_of_ble_eq_true rfl) (by decide) ?_
  refine Ev_aload_n dX10_turn_0 rfl ?_
  refine Ev_iload_n dX10_turn_1 rfl ?_
  obtain ⟨y3, μ1, hM2, h⟩ := h
  refine Ev_callV [_] mlX10_393 rfl rfl (Nat.le_of_ble_eq_true rfl) dX10_turn_2 hM2 ?_
  refine Ev_if_eq 18 dX10_turn_5 (by decide) (fun q => ?_) (fun q => ?_)
  · have h := h.1 q
    refine Ev_iconst (-1) dX10_turn_18 (by decide) ?_
    obtain ⟨rfl, rfl⟩ := h
    exact R_i rfl dX10_turn_19 rfl
  · have h := h.2 q
    refine Ev_iload_n dX10_turn_8 rfl ?_
    refine Ev_iconst 1 dX10_turn_9 (by decide) ?_
    refine Ev_bipush 99 dX10_turn_10 (by decide) ?_
    obtain ⟨y6, μ4, hM5, h⟩ := h
    refine Ev_callS [_, _, _] mlX10_323 rfl rfl (Nat.le_of_ble_eq_true rfl) dX10_turn_12 hM5 ?_
    refine Ev_if_ne 20 dX10_turn_15 (by decide) (fun q => ?_) (fun q => ?_)
    · have h := h.1 q
      refine Ev_aload_n dX10_turn_20 rfl ?_
      obtain ⟨μ7, hM8, h⟩ := h
      refine Ev_callV [] mlX10_381 rfl rfl (Nat.le_of_ble_eq_true rfl) dX10_turn_21 hM8 ?_
      refine Ev_aload_n dX10_turn_24 rfl ?_
      refine Ev_getF 11 92 34 flX10_119 rfl dX10_turn_25 ?_
      refine Ev_bipush 48 dX10_turn_28 (by decide) ?_
      refine Ev_iload_n dX10_turn_30 rfl ?_
      refine Ev_iadd dX10_turn_31 ?_
      refine Ev_dup2 dX10_turn_32 ?_
      obtain ⟨g, h⟩ := h
      refine Ev_iald g dX10_turn_33 ?_
      refine Ev_iload_n dX10_turn_34 rfl ?_
      refine Ev_iadd dX10_turn_35 ?_
      obtain ⟨g, h⟩ := h
      refine Ev_iast g dX10_turn_36 ?_
      have h := h _ rfl
      refine Ev_aload_n dX10_turn_37 rfl ?_
      obtain ⟨μ10, hM11, h⟩ := h
      refine Ev_callV [] mlX10_399 rfl rfl (Nat.le_of_ble_eq_true rfl) dX10_turn_38 hM11 ?_
      refine Ev_aload_n dX10_turn_41 rfl ?_
      refine Ev_getF 11 92 33 flX10_116 rfl dX10_turn_42 ?_
      refine Ev_bipush 48 dX10_turn_45 (by decide) ?_
      refine Ev_iload_n dX10_turn_47 rfl ?_
      refine Ev_iadd dX10_turn_48 ?_
      obtain ⟨g, h⟩ := h
      refine Ev_iald g dX10_turn_49 ?_
      obtain ⟨rfl, rfl⟩ := h
      exact R_i rfl dX10_turn_50 rfl
    · have h := h.2 q
      refine Ev_iconst (-1) dX10_turn_18 (by decide) ?_
      obtain ⟨rfl, rfl⟩ := h
      exact R_i rfl dX10_turn_19 rfl
set_option maxHeartbeats 4000000 in
set_option maxRecDepth 100000 in
theorem X10_undo_ok {d : Nat}  {μ μ' : Mem} {x : Int32} (h : (((μ.1 0 53) ≠ 0 → (∀ μ1 : Mem, μ1 = sI μ 0 53 ((μ.1 0 53) - 1) → X10_undo_at21 d 0 μ1 x μ')) ∧ ((μ.1 0 53) = 0 → (x = 0 ∧ μ' = μ)))) : X10_undo d μ x μ' := by
  refine Me_of [some (vr 10 0 0), none] rfl (Nat.le_of_ble_eq_true rfl) (by decide) ?_
  refine Ev_aload_n dX10_undo_0 rfl ?_
  refine Ev_getI flX10_265 rfl dX10_undo_1 ?_
  refine Ev_if_ne 9 dX10_undo_4 (by decide) (fun q => ?_) (fun q => ?_)
  · have h := h.1 q
    refine Ev_aload_n dX10_undo_9 rfl ?_
    refine Ev_dup dX10_undo_10 (fun _ z => by cases z) ?_
    refine Ev_getI flX10_265 rfl dX10_undo_11 ?_
    refine Ev_iconst 1 dX10_undo_14 (by decide) ?_
    refine Ev_isub dX10_undo_15 ?_
    refine Ev_putI .int flX10_265 fpX10_53 rfl rfl rfl dX10_undo_16 ?_
    have h := h _ rfl
    refine Ev_iconst 0 dX10_undo_19 (by decide) ?_
    refine Ev_istore_n dX10_undo_20 (Nat.le_of_ble_eq_true rfl) (okp_of rfl) ?_
    exact h
  · have h := h.2 q
    refine Ev_iconst 0 dX10_undo_7 (by decide) ?_
    obtain ⟨rfl, rfl⟩ := h
    exact R_i rfl dX10_undo_8 rfl
set_option maxHeartbeats 4000000 in
set_option maxRecDepth 100000 in
theorem X10_undo_at21_ok {d : Nat} {x1 : Int32} {μ μ' : Mem} {x : Int32} (h : ((92 ≤ x1 → (x = 1 ∧ μ' = μ)) ∧ (¬ 92 ≤ x1 → vp_in ((92 * (μ.1 0 53)) + x1) 2760 ∧ vp_in x1 92 ∧ (∀ μ1 : Mem, μ1 = sI μ 33 x1.toNatClampNeg (μ.1 35 (((92 * (μ.1 0 53)) + x1).toNatClampNeg)) → X10_undo_at21 d (x1 + 1) μ1 x μ')))) : X10_undo_at21 d x1 μ x μ' := by
  refine Ev_iload_n dX10_undo_21 rfl ?_
  refine Ev_bipush 92 dX10_undo_22 (by decide) ?_
  refine Ev_icmp_ge 53 dX10_undo_24 (by decide) (fun q => ?_) (fun q => ?_)
  · have h := h.1 q
    refine Ev_iconst 1 dX10_undo_53 (by decide) ?_
    obtain ⟨rfl, rfl⟩ := h
    exact R_i rfl dX10_undo_54 rfl
  · have h := h.2 q
    refine Ev_aload_n dX10_undo_27 rfl ?_
    refine Ev_getF 11 92 33 flX10_116 rfl dX10_undo_28 ?_
    refine Ev_iload_n dX10_undo_31 rfl ?_
    refine Ev_aload_n dX10_undo_32 rfl ?_
    refine Ev_getF 11 2760 35 flX10_122 rfl dX10_undo_33 ?_
    refine Ev_bipush 92 dX10_undo_36 (by decide) ?_
    refine Ev_aload_n dX10_undo_38 rfl ?_
    refine Ev_getI flX10_265 rfl dX10_undo_39 ?_
    refine Ev_imul dX10_undo_42 ?_
    refine Ev_iload_n dX10_undo_43 rfl ?_
    refine Ev_iadd dX10_undo_44 ?_
    obtain ⟨g, h⟩ := h
    refine Ev_iald g dX10_undo_45 ?_
    obtain ⟨g, h⟩ := h
    refine Ev_iast g dX10_undo_46 ?_
    have h := h _ rfl
    refine Ev_iinc (x1 + 1) dX10_undo_47 rfl rfl (okp_of rfl) ?_
    refine Ev_goto 21 dX10_undo_50 (by decide) ?_
    exact h
set_option maxHeartbeats 4000000 in
set_option maxRecDepth 100000 in
theorem X10_unit_ok {d : Nat}  {μ μ' : Mem} (h : (∃ (y3 : Int32) (μ1 : Mem), X10_is d 2 μ y3 μ1 ∧ ((y3 = 0 → (((μ1.1 0 13) ≠ 0 → (∃ (μ4 : Mem), X10_fail d 1 μ1 μ4 ∧ μ' = μ4)) ∧ ((μ1.1 0 13) = 0 → vp_in (μ1.1 0 11) 403 ∧ (((μ1.1 3 ((μ1.1 0 11).toNatClampNeg)) < 32 → (∃ (μ6 : Mem), X10_fail d 1 μ1 μ6 ∧ μ' = μ6)) ∧ (¬ (μ1.1 3 ((μ1.1 0 11).toNatClampNeg)) < 32 → vp_in (μ1.1 0 11) 403 ∧ ((40 < (μ1.1 3 ((μ1.1 0 11).toNatClampNeg)) → (∃ (μ8 : Mem), X10_fail d 1 μ1 μ8 ∧ μ' = μ8)) ∧ (¬ 40 < (μ1.1 3 ((μ1.1 0 11).toNatClampNeg)) → vp_in (μ1.1 0 11) 403 ∧ (∃ (μ10 : Mem), X10_emit d 1 ((μ1.1 3 ((μ1.1 0 11).toNatClampNeg)) - 32) μ1 μ10 ∧ (∃ (μ12 : Mem), X10_goesOn d μ10 μ12 ∧ μ' = μ12))))))))) ∧ (¬ y3 = 0 → vp_in (μ1.1 0 11) 403 ∧ (∃ (μ14 : Mem), X10_emit d 0 (μ1.1 5 ((μ1.1 0 11).toNatClampNeg)) μ1 μ14 ∧ (∃ (μ16 : Mem), X10_goesOn d μ14 μ16 ∧ μ' = μ16)))))) : X10_unit (d + 1) μ μ' := by
  refine Me_of [some (vr 10 0 0)] rfl (Nat.le_of_ble_eq_true rfl) (by decide) ?_
  refine Ev_aload_n dX10_unit_0 rfl ?_
  refine Ev_iconst 2 dX10_unit_1 (by decide) ?_
  obtain ⟨y3, μ1, hM2, h⟩ := h
  refine Ev_callV [_] mlX10_227 rfl rfl (Nat.le_of_ble_eq_true rfl) dX10_unit_2 hM2 ?_
  refine Ev_if_eq 29 dX10_unit_5 (by decide) (fun q => ?_) (fun q => ?_)
  · have h := h.1 q
    refine Ev_aload_n dX10_unit_29 rfl ?_
    refine Ev_getI flX10_209 rfl dX10_unit_30 ?_
    refine Ev_if_ne 88 dX10_unit_33 (by decide) (fun q => ?_) (fun q => ?_)
    · have h := h.1 q
      refine Ev_aload_n dX10_unit_88 rfl ?_
      refine Ev_iconst 1 dX10_unit_89 (by decide) ?_
      obtain ⟨μ4, hM5, h⟩ := h
      refine Ev_callV [_] mlX10_224 rfl rfl (Nat.le_of_ble_eq_true rfl) dX10_unit_90 hM5 ?_
      subst h
      exact R_v rfl dX10_unit_93
    · have h := h.2 q
      refine Ev_aload_n dX10_unit_36 rfl ?_
      refine Ev_getF 11 403 3 flX10_20 rfl dX10_unit_37 ?_
      refine Ev_aload_n dX10_unit_40 rfl ?_
      refine Ev_getI flX10_212 rfl dX10_unit_41 ?_
      obtain ⟨g, h⟩ := h
      refine Ev_iald g dX10_unit_44 ?_
      refine Ev_bipush 32 dX10_unit_45 (by decide) ?_
      refine Ev_icmp_lt 88 dX10_unit_47 (by decide) (fun q => ?_) (fun q => ?_)
      · have h := h.1 q
        refine Ev_aload_n dX10_unit_88 rfl ?_
        refine Ev_iconst 1 dX10_unit_89 (by decide) ?_
        obtain ⟨μ6, hM7, h⟩ := h
        refine Ev_callV [_] mlX10_224 rfl rfl (Nat.le_of_ble_eq_true rfl) dX10_unit_90 hM7 ?_
        subst h
        exact R_v rfl dX10_unit_93
      · have h := h.2 q
        refine Ev_aload_n dX10_unit_50 rfl ?_
        refine Ev_getF 11 403 3 flX10_20 rfl dX10_unit_51 ?_
        refine Ev_aload_n dX10_unit_54 rfl ?_
        refine Ev_getI flX10_212 rfl dX10_unit_55 ?_
        obtain ⟨g, h⟩ := h
        refine Ev_iald g dX10_unit_58 ?_
        refine Ev_bipush 40 dX10_unit_59 (by decide) ?_
        refine Ev_icmp_gt 88 dX10_unit_61 (by decide) (fun q => ?_) (fun q => ?_)
        · have h := h.1 q
          refine Ev_aload_n dX10_unit_88 rfl ?_
          refine Ev_iconst 1 dX10_unit_89 (by decide) ?_
          obtain ⟨μ8, hM9, h⟩ := h
          refine Ev_callV [_] mlX10_224 rfl rfl (Nat.le_of_ble_eq_true rfl) dX10_unit_90 hM9 ?_
          subst h
          exact R_v rfl dX10_unit_93
        · have h := h.2 q
          refine Ev_aload_n dX10_unit_64 rfl ?_
          refine Ev_iconst 1 dX10_unit_65 (by decide) ?_
          refine Ev_aload_n dX10_unit_66 rfl ?_
          refine Ev_getF 11 403 3 flX10_20 rfl dX10_unit_67 ?_
          refine Ev_aload_n dX10_unit_70 rfl ?_
          refine Ev_getI flX10_212 rfl dX10_unit_71 ?_
          obtain ⟨g, h⟩ := h
          refine Ev_iald g dX10_unit_74 ?_
          refine Ev_bipush 32 dX10_unit_75 (by decide) ?_
          refine Ev_isub dX10_unit_77 ?_
          obtain ⟨μ10, hM11, h⟩ := h
          refine Ev_callV [_, _] mlX10_309 rfl rfl (Nat.le_of_ble_eq_true rfl) dX10_unit_78 hM11 ?_
          refine Ev_aload_n dX10_unit_81 rfl ?_
          obtain ⟨μ12, hM13, h⟩ := h
          refine Ev_callV [] mlX10_230 rfl rfl (Nat.le_of_ble_eq_true rfl) dX10_unit_82 hM13 ?_
          refine Ev_goto 93 dX10_unit_85 (by decide) ?_
          subst h
          exact R_v rfl dX10_unit_93
  · have h := h.2 q
    refine Ev_aload_n dX10_unit_8 rfl ?_
    refine Ev_iconst 0 dX10_unit_9 (by decide) ?_
    refine Ev_aload_n dX10_unit_10 rfl ?_
    refine Ev_getF 11 403 5 flX10_27 rfl dX10_unit_11 ?_
    refine Ev_aload_n dX10_unit_14 rfl ?_
    refine Ev_getI flX10_212 rfl dX10_unit_15 ?_
    obtain ⟨g, h⟩ := h
    refine Ev_iald g dX10_unit_18 ?_
    obtain ⟨μ14, hM15, h⟩ := h
    refine Ev_callV [_, _] mlX10_309 rfl rfl (Nat.le_of_ble_eq_true rfl) dX10_unit_19 hM15 ?_
    refine Ev_aload_n dX10_unit_22 rfl ?_
    obtain ⟨μ16, hM17, h⟩ := h
    refine Ev_callV [] mlX10_230 rfl rfl (Nat.le_of_ble_eq_true rfl) dX10_unit_23 hM17 ?_
    refine Ev_goto 93 dX10_unit_26 (by decide) ?_
    subst h
    exact R_v rfl dX10_unit_93
set_option maxHeartbeats 4000000 in
set_option maxRecDepth 100000 in
theorem X10_wetBy_ok {d : Nat} {x1 : Int32} {x2 : Int32} {x3 : Int32} {x4 : Int32} {μ μ' : Mem} {x : Int32} (h : (∃ (y3 : Int32) (μ1 : Mem), X10_in d ((x4 - x4 / 8 * 8) - (x1 - x1 / 8 * 8)) 0 (x2 - 1) μ y3 μ1 ∧ ((y3 = 0 → (x = 0 ∧ μ' = μ1)) ∧ (¬ y3 = 0 → (∃ (y6 : Int32) (μ4 : Mem), X10_in d ((x4 / 8) - ((x1 / 8) - (x1 / 8) / 8 * 8)) 0 (x3 - 1) μ1 y6 μ4 ∧ ((y6 = 0 → (x = 0 ∧ μ' = μ4)) ∧ (¬ y6 = 0 → vp_in (48 + (x1 / 64)) 92 ∧ (∃ (y9 : Int32) (μ7 : Mem), X10_threadOf d (x1 / 64) ((x4 - x4 / 8 * 8) - (x1 - x1 / 8 * 8)) ((μ4.1 33 ((48 + (x1 / 64)).toNatClampNeg)) + ((x4 / 8) - ((x1 / 8) - (x1 / 8) / 8 * 8))) μ4 y9 μ7 ∧ (x = y9 ∧ μ' = μ7))))))))) : X10_wetBy (d + 1) x1 x2 x3 x4 μ x μ' := by
  refine Me_of [some (vr 10 0 0), some (vi x1), some (vi x2), some (vi x3), some (vi x4), none, none] rfl (Nat.le_of_ble_eq_true rfl) (by decide) ?_
  refine Ev_iload dX10_wetBy_0 rfl ?_
  refine Ev_bipush 8 dX10_wetBy_2 (by decide) ?_
  refine Ev_irem dX10_wetBy_4 (by decide) ?_
  refine Ev_iload_n dX10_wetBy_5 rfl ?_
  refine Ev_bipush 8 dX10_wetBy_6 (by decide) ?_
  refine Ev_irem dX10_wetBy_8 (by decide) ?_
  refine Ev_isub dX10_wetBy_9 ?_
  refine Ev_istore dX10_wetBy_10 (Nat.le_of_ble_eq_true rfl) (okp_of rfl) ?_
  refine Ev_iload dX10_wetBy_12 rfl ?_
  refine Ev_bipush 8 dX10_wetBy_14 (by decide) ?_
  refine Ev_idiv dX10_wetBy_16 (by decide) ?_
  refine Ev_iload_n dX10_wetBy_17 rfl ?_
  refine Ev_bipush 8 dX10_wetBy_18 (by decide) ?_
  refine Ev_idiv dX10_wetBy_20 (by decide) ?_
  refine Ev_bipush 8 dX10_wetBy_21 (by decide) ?_
  refine Ev_irem dX10_wetBy_23 (by decide) ?_
  refine Ev_isub dX10_wetBy_24 ?_
  refine Ev_istore dX10_wetBy_25 (Nat.le_of_ble_eq_true rfl) (okp_of rfl) ?_
  refine Ev_iload dX10_wetBy_27 rfl ?_
  refine Ev_iconst 0 dX10_wetBy_29 (by decide) ?_
  refine Ev_iload_n dX10_wetBy_30 rfl ?_
  refine Ev_iconst 1 dX10_wetBy_31 (by decide) ?_
  refine Ev_isub dX10_wetBy_32 ?_
  obtain ⟨y3, μ1, hM2, h⟩ := h
  refine Ev_callS [_, _, _] mlX10_323 rfl rfl (Nat.le_of_ble_eq_true rfl) dX10_wetBy_33 hM2 ?_
  refine Ev_if_eq 79 dX10_wetBy_36 (by decide) (fun q => ?_) (fun q => ?_)
  · have h := h.1 q
    refine Ev_iconst 0 dX10_wetBy_79 (by decide) ?_
    obtain ⟨rfl, rfl⟩ := h
    exact R_i rfl dX10_wetBy_80 rfl
  · have h := h.2 q
    refine Ev_iload dX10_wetBy_39 rfl ?_
    refine Ev_iconst 0 dX10_wetBy_41 (by decide) ?_
    refine Ev_iload_n dX10_wetBy_42 rfl ?_
    refine Ev_iconst 1 dX10_wetBy_43 (by decide) ?_
    refine Ev_isub dX10_wetBy_44 ?_
    obtain ⟨y6, μ4, hM5, h⟩ := h
    refine Ev_callS [_, _, _] mlX10_323 rfl rfl (Nat.le_of_ble_eq_true rfl) dX10_wetBy_45 hM5 ?_
    refine Ev_if_eq 79 dX10_wetBy_48 (by decide) (fun q => ?_) (fun q => ?_)
    · have h := h.1 q
      refine Ev_iconst 0 dX10_wetBy_79 (by decide) ?_
      obtain ⟨rfl, rfl⟩ := h
      exact R_i rfl dX10_wetBy_80 rfl
    · have h := h.2 q
      refine Ev_aload_n dX10_wetBy_51 rfl ?_
      refine Ev_iload_n dX10_wetBy_52 rfl ?_
      refine Ev_bipush 64 dX10_wetBy_53 (by decide) ?_
      refine Ev_idiv dX10_wetBy_55 (by decide) ?_
      refine Ev_iload dX10_wetBy_56 rfl ?_
      refine Ev_aload_n dX10_wetBy_58 rfl ?_
      refine Ev_getF 11 92 33 flX10_116 rfl dX10_wetBy_59 ?_
      refine Ev_bipush 48 dX10_wetBy_62 (by decide) ?_
      refine Ev_iload_n dX10_wetBy_64 rfl ?_
      refine Ev_bipush 64 dX10_wetBy_65 (by decide) ?_
      refine Ev_idiv dX10_wetBy_67 (by decide) ?_
      refine Ev_iadd dX10_wetBy_68 ?_
      obtain ⟨g, h⟩ := h
      refine Ev_iald g dX10_wetBy_69 ?_
      refine Ev_iload dX10_wetBy_70 rfl ?_
      refine Ev_iadd dX10_wetBy_72 ?_
      obtain ⟨y9, μ7, hM8, h⟩ := h
      refine Ev_callV [_, _, _] mlX10_356 rfl rfl (Nat.le_of_ble_eq_true rfl) dX10_wetBy_73 hM8 ?_
      refine Ev_goto 80 dX10_wetBy_76 (by decide) ?_
      obtain ⟨rfl, rfl⟩ := h
      exact R_i rfl dX10_wetBy_80 rfl
set_option maxHeartbeats 4000000 in
set_option maxRecDepth 100000 in
theorem X10_wettest_ok {d : Nat} {x1 : Int32} {x2 : Int32} {μ μ' : Mem} {x : Int32} (h : (∃ (y3 : Int32) (μ1 : Mem), X10_isLong d x1 μ y3 μ1 ∧ ((y3 = 0 → (x = (-1) ∧ μ' = μ1)) ∧ (¬ y3 = 0 → (∃ (y6 : Int32) (μ4 : Mem), X10_in d x2 0 2 μ1 y6 μ4 ∧ ((y6 ≠ 0 → (∃ (μ7 : Mem), X10_copies d μ4 μ7 ∧ (∃ (μ9 : Mem), X10_goes d x1 μ7 μ9 ∧ X10_wettest_at32 d x2 (-1) 0 μ9 x μ'))) ∧ (y6 = 0 → (x = (-1) ∧ μ' = μ4)))))))) : X10_wettest (d + 1) x1 x2 μ x μ' := by
  refine Me_of [some (vr 10 0 0), some (vi x1), some (vi x2), none, none] rfl (Nat.le_of_ble_eq_true rfl) (by decide) ?_
  refine Ev_iload_n dX10_wettest_0 rfl ?_
  obtain ⟨y3, μ1, hM2, h⟩ := h
  refine Ev_callS [_] mlX10_442 rfl rfl (Nat.le_of_ble_eq_true rfl) dX10_wettest_1 hM2 ?_
  refine Ev_if_eq 16 dX10_wettest_4 (by decide) (fun q => ?_) (fun q => ?_)
  · have h := h.1 q
    refine Ev_iconst (-1) dX10_wettest_16 (by decide) ?_
    obtain ⟨rfl, rfl⟩ := h
    exact R_i rfl dX10_wettest_17 rfl
  · have h := h.2 q
    refine Ev_iload_n dX10_wettest_7 rfl ?_
    refine Ev_iconst 0 dX10_wettest_8 (by decide) ?_
    refine Ev_iconst 2 dX10_wettest_9 (by decide) ?_
    obtain ⟨y6, μ4, hM5, h⟩ := h
    refine Ev_callS [_, _, _] mlX10_323 rfl rfl (Nat.le_of_ble_eq_true rfl) dX10_wettest_10 hM5 ?_
    refine Ev_if_ne 18 dX10_wettest_13 (by decide) (fun q => ?_) (fun q => ?_)
    · have h := h.1 q
      refine Ev_aload_n dX10_wettest_18 rfl ?_
      obtain ⟨μ7, hM8, h⟩ := h
      refine Ev_callV [] mlX10_381 rfl rfl (Nat.le_of_ble_eq_true rfl) dX10_wettest_19 hM8 ?_
      refine Ev_aload_n dX10_wettest_22 rfl ?_
      refine Ev_iload_n dX10_wettest_23 rfl ?_
      obtain ⟨μ9, hM10, h⟩ := h
      refine Ev_callV [_] mlX10_402 rfl rfl (Nat.le_of_ble_eq_true rfl) dX10_wettest_24 hM10 ?_
      refine Ev_iconst (-1) dX10_wettest_27 (by decide) ?_
      refine Ev_istore_n dX10_wettest_28 (Nat.le_of_ble_eq_true rfl) (okp_of rfl) ?_
      refine Ev_iconst 0 dX10_wettest_29 (by decide) ?_
      refine Ev_istore dX10_wettest_30 (Nat.le_of_ble_eq_true rfl) (okp_of rfl) ?_
      refine Ev_weak ?_ h
      exact And.intro rfl (And.intro trivial (And.intro rfl (And.intro rfl (And.intro rfl (trivial)))))
    · have h := h.2 q
      refine Ev_iconst (-1) dX10_wettest_16 (by decide) ?_
      obtain ⟨rfl, rfl⟩ := h
      exact R_i rfl dX10_wettest_17 rfl
set_option maxHeartbeats 4000000 in
set_option maxRecDepth 100000 in
theorem X10_wettest_at32_ok {d : Nat} {x2 : Int32} {x3 : Int32} {x4 : Int32} {μ μ' : Mem} {x : Int32} (h : ((48 ≤ x4 → ((0 ≤ x3 → ((x2 ≠ 0 → ((x2 ≠ 1 → (x = x3 / 8 ∧ μ' = μ)) ∧ (x2 = 1 → (x = x3 - x3 / 8 * 8 ∧ μ' = μ)))) ∧ (x2 = 0 → vp_in x3 92 ∧ (x = μ.1 34 x3.toNatClampNeg ∧ μ' = μ)))) ∧ (¬ 0 ≤ x3 → (x = (-2) ∧ μ' = μ)))) ∧ (¬ 48 ≤ x4 → (∃ (y3 : Int32) (μ1 : Mem), X10_isLand d x4 μ y3 μ1 ∧ ((y3 = 0 → X10_wettest_at32 d x2 x3 (x4 + 1) μ1 x μ') ∧ (¬ y3 = 0 → ((x3 < 0 → X10_wettest_at32 d x2 x4 (x4 + 1) μ1 x μ') ∧ (¬ x3 < 0 → vp_in x4 92 ∧ vp_in x3 92 ∧ (((μ1.1 34 x4.toNatClampNeg) ≤ (μ1.1 34 x3.toNatClampNeg) → X10_wettest_at32 d x2 x3 (x4 + 1) μ1 x μ') ∧ (¬ (μ1.1 34 x4.toNatClampNeg) ≤ (μ1.1 34 x3.toNatClampNeg) → X10_wettest_at32 d x2 x4 (x4 + 1) μ1 x μ')))))))))) : X10_wettest_at32 d x2 x3 x4 μ x μ' := by
  refine Ev_iload dX10_wettest_32 rfl ?_
  refine Ev_bipush 48 dX10_wettest_34 (by decide) ?_
  refine Ev_icmp_ge 77 dX10_wettest_36 (by decide) (fun q => ?_) (fun q => ?_)
  · have h := h.1 q
    refine Ev_iload_n dX10_wettest_77 rfl ?_
    refine Ev_if_ge 84 dX10_wettest_78 (by decide) (fun q => ?_) (fun q => ?_)
    · have h := h.1 q
      refine Ev_iload_n dX10_wettest_84 rfl ?_
      refine Ev_if_ne 97 dX10_wettest_85 (by decide) (fun q => ?_) (fun q => ?_)
      · have h := h.1 q
        refine Ev_iload_n dX10_wettest_97 rfl ?_
        refine Ev_iconst 1 dX10_wettest_98 (by decide) ?_
        refine Ev_icmp_ne 109 dX10_wettest_99 (by decide) (fun q => ?_) (fun q => ?_)
        · have h := h.1 q
          refine Ev_iload_n dX10_wettest_109 rfl ?_
          refine Ev_bipush 8 dX10_wettest_110 (by decide) ?_
          refine Ev_idiv dX10_wettest_112 (by decide) ?_
          obtain ⟨rfl, rfl⟩ := h
          exact R_i rfl dX10_wettest_113 rfl
        · have h := h.2 q
          refine Ev_iload_n dX10_wettest_102 rfl ?_
          refine Ev_bipush 8 dX10_wettest_103 (by decide) ?_
          refine Ev_irem dX10_wettest_105 (by decide) ?_
          refine Ev_goto 113 dX10_wettest_106 (by decide) ?_
          obtain ⟨rfl, rfl⟩ := h
          exact R_i rfl dX10_wettest_113 rfl
      · have h := h.2 q
        refine Ev_aload_n dX10_wettest_88 rfl ?_
        refine Ev_getF 11 92 34 flX10_119 rfl dX10_wettest_89 ?_
        refine Ev_iload_n dX10_wettest_92 rfl ?_
        obtain ⟨g, h⟩ := h
        refine Ev_iald g dX10_wettest_93 ?_
        refine Ev_goto 113 dX10_wettest_94 (by decide) ?_
        obtain ⟨rfl, rfl⟩ := h
        exact R_i rfl dX10_wettest_113 rfl
    · have h := h.2 q
      refine Ev_bipush (-2) dX10_wettest_81 (by decide) ?_
      obtain ⟨rfl, rfl⟩ := h
      exact R_i rfl dX10_wettest_83 rfl
  · have h := h.2 q
    refine Ev_aload_n dX10_wettest_39 rfl ?_
    refine Ev_iload dX10_wettest_40 rfl ?_
    obtain ⟨y3, μ1, hM2, h⟩ := h
    refine Ev_callV [_] mlX10_366 rfl rfl (Nat.le_of_ble_eq_true rfl) dX10_wettest_42 hM2 ?_
    refine Ev_if_eq 71 dX10_wettest_45 (by decide) (fun q => ?_) (fun q => ?_)
    · have h := h.1 q
      refine Ev_iinc (x4 + 1) dX10_wettest_71 rfl rfl (okp_of rfl) ?_
      refine Ev_goto 32 dX10_wettest_74 (by decide) ?_
      exact h
    · have h := h.2 q
      refine Ev_iload_n dX10_wettest_48 rfl ?_
      refine Ev_if_lt 68 dX10_wettest_49 (by decide) (fun q => ?_) (fun q => ?_)
      · have h := h.1 q
        refine Ev_iload dX10_wettest_68 rfl ?_
        refine Ev_istore_n dX10_wettest_70 (Nat.le_of_ble_eq_true rfl) (okp_of rfl) ?_
        refine Ev_iinc (x4 + 1) dX10_wettest_71 rfl rfl (okp_of rfl) ?_
        refine Ev_goto 32 dX10_wettest_74 (by decide) ?_
        exact h
      · have h := h.2 q
        refine Ev_aload_n dX10_wettest_52 rfl ?_
        refine Ev_getF 11 92 34 flX10_119 rfl dX10_wettest_53 ?_
        refine Ev_iload dX10_wettest_56 rfl ?_
        obtain ⟨g, h⟩ := h
        refine Ev_iald g dX10_wettest_58 ?_
        refine Ev_aload_n dX10_wettest_59 rfl ?_
        refine Ev_getF 11 92 34 flX10_119 rfl dX10_wettest_60 ?_
        refine Ev_iload_n dX10_wettest_63 rfl ?_
        obtain ⟨g, h⟩ := h
        refine Ev_iald g dX10_wettest_64 ?_
        refine Ev_icmp_le 71 dX10_wettest_65 (by decide) (fun q => ?_) (fun q => ?_)
        · have h := h.1 q
          refine Ev_iinc (x4 + 1) dX10_wettest_71 rfl rfl (okp_of rfl) ?_
          refine Ev_goto 32 dX10_wettest_74 (by decide) ?_
          exact h
        · have h := h.2 q
          refine Ev_iload dX10_wettest_68 rfl ?_
          refine Ev_istore_n dX10_wettest_70 (Nat.le_of_ble_eq_true rfl) (okp_of rfl) ?_
          refine Ev_iinc (x4 + 1) dX10_wettest_71 rfl rfl (okp_of rfl) ?_
          refine Ev_goto 32 dX10_wettest_74 (by decide) ?_
          exact h
set_option maxHeartbeats 4000000 in
set_option maxRecDepth 100000 in
theorem X10_where_ok {d : Nat} {x1 : Int32} {x2 : Int32} {x3 : Int32} {x4 : Int32} {μ μ' : Mem} {x : Int32} (h : (∃ (y3 : Int32) (μ1 : Mem), X10_isPiece d x1 x2 x3 μ y3 μ1 ∧ ((y3 = 0 → (x = (-1000) ∧ μ' = μ1)) ∧ (¬ y3 = 0 → (∃ (y6 : Int32) (μ4 : Mem), X10_in d x4 0 2 μ1 y6 μ4 ∧ ((y6 ≠ 0 → (∃ (μ7 : Mem), X10_fillsWhere d x1 x2 x3 μ4 μ7 ∧ ((0 ≤ (μ7.1 0 56) → ((x4 ≠ 0 → ((x4 ≠ 1 → (x = (μ7.1 0 56) / 8 ∧ μ' = μ7)) ∧ (x4 = 1 → (x = (μ7.1 0 56) - (μ7.1 0 56) / 8 * 8 ∧ μ' = μ7)))) ∧ (x4 = 0 → (x = μ7.1 0 55 ∧ μ' = μ7)))) ∧ (¬ 0 ≤ (μ7.1 0 56) → (x = (-1000) ∧ μ' = μ7))))) ∧ (y6 = 0 → (x = (-1000) ∧ μ' = μ4)))))))) : X10_where (d + 1) x1 x2 x3 x4 μ x μ' := by
  refine Me_of [some (vr 10 0 0), some (vi x1), some (vi x2), some (vi x3), some (vi x4)] rfl (Nat.le_of_ble_eq_true rfl) (by decide) ?_
  refine Ev_aload_n dX10_where_0 rfl ?_
  refine Ev_iload_n dX10_where_1 rfl ?_
  refine Ev_iload_n dX10_where_2 rfl ?_
  refine Ev_iload_n dX10_where_3 rfl ?_
  obtain ⟨y3, μ1, hM2, h⟩ := h
  refine Ev_callV [_, _, _] mlX10_396 rfl rfl (Nat.le_of_ble_eq_true rfl) dX10_where_4 hM2 ?_
  refine Ev_if_eq 20 dX10_where_7 (by decide) (fun q => ?_) (fun q => ?_)
  · have h := h.1 q
    refine Ev_sipush (-1000) dX10_where_20 (by decide) ?_
    obtain ⟨rfl, rfl⟩ := h
    exact R_i rfl dX10_where_23 rfl
  · have h := h.2 q
    refine Ev_iload dX10_where_10 rfl ?_
    refine Ev_iconst 0 dX10_where_12 (by decide) ?_
    refine Ev_iconst 2 dX10_where_13 (by decide) ?_
    obtain ⟨y6, μ4, hM5, h⟩ := h
    refine Ev_callS [_, _, _] mlX10_323 rfl rfl (Nat.le_of_ble_eq_true rfl) dX10_where_14 hM5 ?_
    refine Ev_if_ne 24 dX10_where_17 (by decide) (fun q => ?_) (fun q => ?_)
    · have h := h.1 q
      refine Ev_aload_n dX10_where_24 rfl ?_
      refine Ev_iload_n dX10_where_25 rfl ?_
      refine Ev_iload_n dX10_where_26 rfl ?_
      refine Ev_iload_n dX10_where_27 rfl ?_
      obtain ⟨μ7, hM8, h⟩ := h
      refine Ev_callV [_, _, _] mlX10_420 rfl rfl (Nat.le_of_ble_eq_true rfl) dX10_where_28 hM8 ?_
      refine Ev_aload_n dX10_where_31 rfl ?_
      refine Ev_getI flX10_411 rfl dX10_where_32 ?_
      refine Ev_if_ge 42 dX10_where_35 (by decide) (fun q => ?_) (fun q => ?_)
      · have h := h.1 q
        refine Ev_iload dX10_where_42 rfl ?_
        refine Ev_if_ne 54 dX10_where_44 (by decide) (fun q => ?_) (fun q => ?_)
        · have h := h.1 q
          refine Ev_iload dX10_where_54 rfl ?_
          refine Ev_iconst 1 dX10_where_56 (by decide) ?_
          refine Ev_icmp_ne 70 dX10_where_57 (by decide) (fun q => ?_) (fun q => ?_)
          · have h := h.1 q
            refine Ev_aload_n dX10_where_70 rfl ?_
            refine Ev_getI flX10_411 rfl dX10_where_71 ?_
            refine Ev_bipush 8 dX10_where_74 (by decide) ?_
            refine Ev_idiv dX10_where_76 (by decide) ?_
            obtain ⟨rfl, rfl⟩ := h
            exact R_i rfl dX10_where_77 rfl
          · have h := h.2 q
            refine Ev_aload_n dX10_where_60 rfl ?_
            refine Ev_getI flX10_411 rfl dX10_where_61 ?_
            refine Ev_bipush 8 dX10_where_64 (by decide) ?_
            refine Ev_irem dX10_where_66 (by decide) ?_
            refine Ev_goto 77 dX10_where_67 (by decide) ?_
            obtain ⟨rfl, rfl⟩ := h
            exact R_i rfl dX10_where_77 rfl
        · have h := h.2 q
          refine Ev_aload_n dX10_where_47 rfl ?_
          refine Ev_getI flX10_417 rfl dX10_where_48 ?_
          refine Ev_goto 77 dX10_where_51 (by decide) ?_
          obtain ⟨rfl, rfl⟩ := h
          exact R_i rfl dX10_where_77 rfl
      · have h := h.2 q
        refine Ev_sipush (-1000) dX10_where_38 (by decide) ?_
        obtain ⟨rfl, rfl⟩ := h
        exact R_i rfl dX10_where_41 rfl
    · have h := h.2 q
      refine Ev_sipush (-1000) dX10_where_20 (by decide) ?_
      obtain ⟨rfl, rfl⟩ := h
      exact R_i rfl dX10_where_23 rfl
set_option maxHeartbeats 4000000 in
set_option maxRecDepth 100000 in
theorem X10_word_ok {d : Nat} {x0 : Int32} {x1 : Int32} {x2 : Int32} {x3 : Int32} {x4 : Int32} {x5 : Int32} {x6 : Int32} {μ μ' : Mem} {x : Int64} (h : (∃ (y3 : Int64) (μ1 : Mem), X10_appends d 0 x0 μ y3 μ1 ∧ (∃ (y6 : Int64) (μ4 : Mem), X10_appends d y3 x1 μ1 y6 μ4 ∧ (∃ (y9 : Int64) (μ7 : Mem), X10_appends d y6 x2 μ4 y9 μ7 ∧ (∃ (y12 : Int64) (μ10 : Mem), X10_appends d y9 x3 μ7 y12 μ10 ∧ (∃ (y15 : Int64) (μ13 : Mem), X10_appends d y12 x4 μ10 y15 μ13 ∧ (∃ (y18 : Int64) (μ16 : Mem), X10_appends d y15 x5 μ13 y18 μ16 ∧ (∃ (y21 : Int64) (μ19 : Mem), X10_appends d y18 x6 μ16 y21 μ19 ∧ (x = y21 ∧ μ' = μ19))))))))) : X10_word (d + 1) x0 x1 x2 x3 x4 x5 x6 μ x μ' := by
  refine Me_of [some (vi x0), some (vi x1), some (vi x2), some (vi x3), some (vi x4), some (vi x5), some (vi x6)] rfl (Nat.le_of_ble_eq_true rfl) (by decide) ?_
  refine Ev_lconst 0 dX10_word_0 (by decide) ?_
  refine Ev_iload_n dX10_word_1 rfl ?_
  obtain ⟨y3, μ1, hM2, h⟩ := h
  refine Ev_callS [_, _] mlX10_183 rfl rfl (Nat.le_of_ble_eq_true rfl) dX10_word_2 hM2 ?_
  refine Ev_iload_n dX10_word_5 rfl ?_
  obtain ⟨y6, μ4, hM5, h⟩ := h
  refine Ev_callS [_, _] mlX10_183 rfl rfl (Nat.le_of_ble_eq_true rfl) dX10_word_6 hM5 ?_
  refine Ev_iload_n dX10_word_9 rfl ?_
  obtain ⟨y9, μ7, hM8, h⟩ := h
  refine Ev_callS [_, _] mlX10_183 rfl rfl (Nat.le_of_ble_eq_true rfl) dX10_word_10 hM8 ?_
  refine Ev_iload_n dX10_word_13 rfl ?_
  obtain ⟨y12, μ10, hM11, h⟩ := h
  refine Ev_callS [_, _] mlX10_183 rfl rfl (Nat.le_of_ble_eq_true rfl) dX10_word_14 hM11 ?_
  refine Ev_iload dX10_word_17 rfl ?_
  obtain ⟨y15, μ13, hM14, h⟩ := h
  refine Ev_callS [_, _] mlX10_183 rfl rfl (Nat.le_of_ble_eq_true rfl) dX10_word_19 hM14 ?_
  refine Ev_iload dX10_word_22 rfl ?_
  obtain ⟨y18, μ16, hM17, h⟩ := h
  refine Ev_callS [_, _] mlX10_183 rfl rfl (Nat.le_of_ble_eq_true rfl) dX10_word_24 hM17 ?_
  refine Ev_iload dX10_word_27 rfl ?_
  obtain ⟨y21, μ19, hM20, h⟩ := h
  refine Ev_callS [_, _] mlX10_183 rfl rfl (Nat.le_of_ble_eq_true rfl) dX10_word_29 hM20 ?_
  obtain ⟨rfl, rfl⟩ := h
  exact R_l rfl dX10_word_32
set_option maxHeartbeats 4000000 in
set_option maxRecDepth 100000 in
theorem X10_worstAt_ok {d : Nat} {x1 : Int32} {x2 : Int32} {x3 : Int32} {μ μ' : Mem} {x : Int32} (h : X10_worstAt_at3 d x1 x2 x3 0 μ x μ') : X10_worstAt (d + 1) x1 x2 x3 μ x μ' := by
  refine Me_of [some (vr 10 0 0), some (vi x1), some (vi x2), some (vi x3), none, none] rfl (Nat.le_of_ble_eq_true rfl) (by decide) ?_
  refine Ev_iconst 0 dX10_worstAt_0 (by decide) ?_
  refine Ev_istore dX10_worstAt_1 (Nat.le_of_ble_eq_true rfl) (okp_of rfl) ?_
  exact h
set_option maxHeartbeats 4000000 in
set_option maxRecDepth 100000 in
theorem X10_worstAt_at3_ok {d : Nat} {x1 : Int32} {x2 : Int32} {x3 : Int32} {x4 : Int32} {μ μ' : Mem} {x : Int32} (h : ((10 ≤ x4 → X10_worstAt_at27 d x1 x2 x3 0 μ x μ') ∧ (¬ 10 ≤ x4 → vp_in x4 10 ∧ (∀ μ1 : Mem, μ1 = sI μ 44 x4.toNatClampNeg 0 → X10_worstAt_at3 d x1 x2 x3 (x4 + 1) μ1 x μ')))) : X10_worstAt_at3 d x1 x2 x3 x4 μ x μ' := by
  refine Ev_iload dX10_worstAt_3 rfl ?_
  refine Ev_bipush 10 dX10_worstAt_5 (by decide) ?_
  refine Ev_icmp_ge 24 dX10_worstAt_7 (by decide) (fun q => ?_) (fun q => ?_)
  · have h := h.1 q
    refine Ev_iconst 0 dX10_worstAt_24 (by decide) ?_
    refine Ev_istore dX10_worstAt_25 (Nat.le_of_ble_eq_true rfl) (okp_of rfl) ?_
    exact h
  · have h := h.2 q
    refine Ev_aload_n dX10_worstAt_10 rfl ?_
    refine Ev_getF 11 10 44 flX10_149 rfl dX10_worstAt_11 ?_
    refine Ev_iload dX10_worstAt_14 rfl ?_
    refine Ev_iconst 0 dX10_worstAt_16 (by decide) ?_
    obtain ⟨g, h⟩ := h
    refine Ev_iast g dX10_worstAt_17 ?_
    have h := h _ rfl
    refine Ev_iinc (x4 + 1) dX10_worstAt_18 rfl rfl (okp_of rfl) ?_
    refine Ev_goto 3 dX10_worstAt_21 (by decide) ?_
    exact h
set_option maxHeartbeats 4000000 in
set_option maxRecDepth 100000 in
theorem X10_worstAt_at27_ok {d : Nat} {x1 : Int32} {x2 : Int32} {x3 : Int32} {x4 : Int32} {μ μ' : Mem} {x : Int32} (h : ((256 ≤ x4 → X10_worstAt_at75 d 0 0 μ x μ') ∧ (¬ 256 ≤ x4 → vp_in x4 256 ∧ (((μ.1 43 x4.toNatClampNeg) = 0 → X10_worstAt_at27 d x1 x2 x3 (x4 + 1) μ x μ') ∧ (¬ (μ.1 43 x4.toNatClampNeg) = 0 → (∃ (y3 : Int32) (μ1 : Mem), X10_wetBy d x4 x2 x3 x1 μ y3 μ1 ∧ vp_in y3 10 ∧ vp_in y3 10 ∧ (∀ μ4 : Mem, μ4 = sI μ1 44 y3.toNatClampNeg ((μ1.1 44 y3.toNatClampNeg) + 1) → X10_worstAt_at27 d x1 x2 x3 (x4 + 1) μ4 x μ'))))))) : X10_worstAt_at27 d x1 x2 x3 x4 μ x μ' := by
  refine Ev_iload dX10_worstAt_27 rfl ?_
  refine Ev_sipush 256 dX10_worstAt_29 (by decide) ?_
  refine Ev_icmp_ge 69 dX10_worstAt_32 (by decide) (fun q => ?_) (fun q => ?_)
  · have h := h.1 q
    refine Ev_iconst 0 dX10_worstAt_69 (by decide) ?_
    refine Ev_istore dX10_worstAt_70 (Nat.le_of_ble_eq_true rfl) (okp_of rfl) ?_
    refine Ev_iconst 0 dX10_worstAt_72 (by decide) ?_
    refine Ev_istore dX10_worstAt_73 (Nat.le_of_ble_eq_true rfl) (okp_of rfl) ?_
    refine Ev_weak ?_ h
    exact And.intro rfl (And.intro trivial (And.intro trivial (And.intro trivial (And.intro rfl (And.intro rfl (trivial))))))
  · have h := h.2 q
    refine Ev_aload_n dX10_worstAt_35 rfl ?_
    refine Ev_getF 14 256 43 flX10_146 rfl dX10_worstAt_36 ?_
    refine Ev_iload dX10_worstAt_39 rfl ?_
    obtain ⟨g, h⟩ := h
    refine Ev_zald g dX10_worstAt_41 ?_
    refine Ev_if_eq 63 dX10_worstAt_42 (by decide) (fun q => ?_) (fun q => ?_)
    · have h := h.1 q
      refine Ev_iinc (x4 + 1) dX10_worstAt_63 rfl rfl (okp_of rfl) ?_
      refine Ev_goto 27 dX10_worstAt_66 (by decide) ?_
      exact h
    · have h := h.2 q
      refine Ev_aload_n dX10_worstAt_45 rfl ?_
      refine Ev_getF 11 10 44 flX10_149 rfl dX10_worstAt_46 ?_
      refine Ev_aload_n dX10_worstAt_49 rfl ?_
      refine Ev_iload dX10_worstAt_50 rfl ?_
      refine Ev_iload_n dX10_worstAt_52 rfl ?_
      refine Ev_iload_n dX10_worstAt_53 rfl ?_
      refine Ev_iload_n dX10_worstAt_54 rfl ?_
      obtain ⟨y3, μ1, hM2, h⟩ := h
      refine Ev_callV [_, _, _, _] mlX10_467 rfl rfl (Nat.le_of_ble_eq_true rfl) dX10_worstAt_55 hM2 ?_
      refine Ev_dup2 dX10_worstAt_58 ?_
      obtain ⟨g, h⟩ := h
      refine Ev_iald g dX10_worstAt_59 ?_
      refine Ev_iconst 1 dX10_worstAt_60 (by decide) ?_
      refine Ev_iadd dX10_worstAt_61 ?_
      obtain ⟨g, h⟩ := h
      refine Ev_iast g dX10_worstAt_62 ?_
      have h := h _ rfl
      refine Ev_iinc (x4 + 1) dX10_worstAt_63 rfl rfl (okp_of rfl) ?_
      refine Ev_goto 27 dX10_worstAt_66 (by decide) ?_
      exact h
set_option maxHeartbeats 4000000 in
set_option maxRecDepth 100000 in
theorem X10_worstAt_at75_ok {d : Nat} {x4 : Int32} {x5 : Int32} {μ μ' : Mem} {x : Int32} (h : ((10 ≤ x5 → (x = x4 ∧ μ' = μ)) ∧ (¬ 10 ≤ x5 → vp_in x5 10 ∧ (((μ.1 44 x5.toNatClampNeg) ≤ x4 → X10_worstAt_at75 d x4 (x5 + 1) μ x μ') ∧ (¬ (μ.1 44 x5.toNatClampNeg) ≤ x4 → vp_in x5 10 ∧ X10_worstAt_at75 d (μ.1 44 x5.toNatClampNeg) (x5 + 1) μ x μ'))))) : X10_worstAt_at75 d x4 x5 μ x μ' := by
  refine Ev_iload dX10_worstAt_75 rfl ?_
  refine Ev_bipush 10 dX10_worstAt_77 (by decide) ?_
  refine Ev_icmp_ge 109 dX10_worstAt_79 (by decide) (fun q => ?_) (fun q => ?_)
  · have h := h.1 q
    refine Ev_iload dX10_worstAt_109 rfl ?_
    obtain ⟨rfl, rfl⟩ := h
    exact R_i rfl dX10_worstAt_111 rfl
  · have h := h.2 q
    refine Ev_aload_n dX10_worstAt_82 rfl ?_
    refine Ev_getF 11 10 44 flX10_149 rfl dX10_worstAt_83 ?_
    refine Ev_iload dX10_worstAt_86 rfl ?_
    obtain ⟨g, h⟩ := h
    refine Ev_iald g dX10_worstAt_88 ?_
    refine Ev_iload dX10_worstAt_89 rfl ?_
    refine Ev_icmp_le 103 dX10_worstAt_91 (by decide) (fun q => ?_) (fun q => ?_)
    · have h := h.1 q
      refine Ev_iinc (x5 + 1) dX10_worstAt_103 rfl rfl (okp_of rfl) ?_
      refine Ev_goto 75 dX10_worstAt_106 (by decide) ?_
      exact h
    · have h := h.2 q
      refine Ev_aload_n dX10_worstAt_94 rfl ?_
      refine Ev_getF 11 10 44 flX10_149 rfl dX10_worstAt_95 ?_
      refine Ev_iload dX10_worstAt_98 rfl ?_
      obtain ⟨g, h⟩ := h
      refine Ev_iald g dX10_worstAt_100 ?_
      refine Ev_istore dX10_worstAt_101 (Nat.le_of_ble_eq_true rfl) (okp_of rfl) ?_
      refine Ev_iinc (x5 + 1) dX10_worstAt_103 rfl rfl (okp_of rfl) ?_
      refine Ev_goto 75 dX10_worstAt_106 (by decide) ?_
      exact h
set_option maxHeartbeats 4000000 in
set_option maxRecDepth 100000 in
theorem X10_wrong_ok {d : Nat} {x1 : Int32} {x2 : Int32} {μ μ' : Mem} (h : vp_in x2 403 ∧ ((0 < (μ.1 0 13) → μ' = μ) ∧ (¬ 0 < (μ.1 0 13) → (((μ.1 0 15) = 0 → (∀ μ1 : Mem, μ1 = sI μ 0 15 x1 → (∀ μ2 : Mem, μ2 = sI μ1 0 16 (μ.1 4 x2.toNatClampNeg) → μ' = μ2))) ∧ (¬ (μ.1 0 15) = 0 → (((μ.1 0 16) < (μ.1 4 x2.toNatClampNeg) → μ' = μ) ∧ (¬ (μ.1 0 16) < (μ.1 4 x2.toNatClampNeg) → (((μ.1 4 x2.toNatClampNeg) ≠ (μ.1 0 16) → (∀ μ3 : Mem, μ3 = sI μ 0 15 x1 → (∀ μ4 : Mem, μ4 = sI μ3 0 16 (μ.1 4 x2.toNatClampNeg) → μ' = μ4))) ∧ ((μ.1 4 x2.toNatClampNeg) = (μ.1 0 16) → ((x1 < (μ.1 0 15) → (∀ μ5 : Mem, μ5 = sI μ 0 15 x1 → (∀ μ6 : Mem, μ6 = sI μ5 0 16 (μ.1 4 x2.toNatClampNeg) → μ' = μ6))) ∧ (¬ x1 < (μ.1 0 15) → μ' = μ))))))))))) : X10_wrong d x1 x2 μ μ' := by
  refine Me_of [some (vr 10 0 0), some (vi x1), some (vi x2), none] rfl (Nat.le_of_ble_eq_true rfl) (by decide) ?_
  refine Ev_aload_n dX10_wrong_0 rfl ?_
  refine Ev_getF 11 403 4 flX10_24 rfl dX10_wrong_1 ?_
  refine Ev_iload_n dX10_wrong_4 rfl ?_
  obtain ⟨g, h⟩ := h
  refine Ev_iald g dX10_wrong_5 ?_
  refine Ev_istore_n dX10_wrong_6 (Nat.le_of_ble_eq_true rfl) (okp_of rfl) ?_
  refine Ev_aload_n dX10_wrong_7 rfl ?_
  refine Ev_getI flX10_209 rfl dX10_wrong_8 ?_
  refine Ev_if_gt 45 dX10_wrong_11 (by decide) (fun q => ?_) (fun q => ?_)
  · have h := h.1 q
    subst h
    exact R_v rfl dX10_wrong_45
  · have h := h.2 q
    refine Ev_aload_n dX10_wrong_14 rfl ?_
    refine Ev_getI flX10_218 rfl dX10_wrong_15 ?_
    refine Ev_if_eq 46 dX10_wrong_18 (by decide) (fun q => ?_) (fun q => ?_)
    · have h := h.1 q
      refine Ev_aload_n dX10_wrong_46 rfl ?_
      refine Ev_iload_n dX10_wrong_47 rfl ?_
      refine Ev_putI .int flX10_218 fpX10_15 rfl rfl rfl dX10_wrong_48 ?_
      have h := h _ rfl
      refine Ev_aload_n dX10_wrong_51 rfl ?_
      refine Ev_iload_n dX10_wrong_52 rfl ?_
      refine Ev_putI .int flX10_221 fpX10_16 rfl rfl rfl dX10_wrong_53 ?_
      have h := h _ rfl
      subst h
      exact R_v rfl dX10_wrong_56
    · have h := h.2 q
      refine Ev_iload_n dX10_wrong_21 rfl ?_
      refine Ev_aload_n dX10_wrong_22 rfl ?_
      refine Ev_getI flX10_221 rfl dX10_wrong_23 ?_
      refine Ev_icmp_gt 45 dX10_wrong_26 (by decide) (fun q => ?_) (fun q => ?_)
      · have h := h.1 q
        subst h
        exact R_v rfl dX10_wrong_45
      · have h := h.2 q
        refine Ev_iload_n dX10_wrong_29 rfl ?_
        refine Ev_aload_n dX10_wrong_30 rfl ?_
        refine Ev_getI flX10_221 rfl dX10_wrong_31 ?_
        refine Ev_icmp_ne 46 dX10_wrong_34 (by decide) (fun q => ?_) (fun q => ?_)
        · have h := h.1 q
          refine Ev_aload_n dX10_wrong_46 rfl ?_
          refine Ev_iload_n dX10_wrong_47 rfl ?_
          refine Ev_putI .int flX10_218 fpX10_15 rfl rfl rfl dX10_wrong_48 ?_
          have h := h _ rfl
          refine Ev_aload_n dX10_wrong_51 rfl ?_
          refine Ev_iload_n dX10_wrong_52 rfl ?_
          refine Ev_putI .int flX10_221 fpX10_16 rfl rfl rfl dX10_wrong_53 ?_
          have h := h _ rfl
          subst h
          exact R_v rfl dX10_wrong_56
        · have h := h.2 q
          refine Ev_iload_n dX10_wrong_37 rfl ?_
          refine Ev_aload_n dX10_wrong_38 rfl ?_
          refine Ev_getI flX10_218 rfl dX10_wrong_39 ?_
          refine Ev_icmp_lt 46 dX10_wrong_42 (by decide) (fun q => ?_) (fun q => ?_)
          · have h := h.1 q
            refine Ev_aload_n dX10_wrong_46 rfl ?_
            refine Ev_iload_n dX10_wrong_47 rfl ?_
            refine Ev_putI .int flX10_218 fpX10_15 rfl rfl rfl dX10_wrong_48 ?_
            have h := h _ rfl
            refine Ev_aload_n dX10_wrong_51 rfl ?_
            refine Ev_iload_n dX10_wrong_52 rfl ?_
            refine Ev_putI .int flX10_221 fpX10_16 rfl rfl rfl dX10_wrong_53 ?_
            have h := h _ rfl
            subst h
            exact R_v rfl dX10_wrong_56
          · have h := h.2 q
            subst h
            exact R_v rfl dX10_wrong_45
set_option maxHeartbeats 4000000 in
set_option maxRecDepth 100000 in
theorem X10_year_ok {d : Nat} {x1 : Int32} {x2 : Int32} {μ μ' : Mem} {x : Int32} (h : (∃ (y3 : Int32) (μ1 : Mem), X10_isLong d x1 μ y3 μ1 ∧ ((y3 = 0 → (x = (-1) ∧ μ' = μ1)) ∧ (¬ y3 = 0 → (∃ (y6 : Int32) (μ4 : Mem), X10_in d x2 1 20 μ1 y6 μ4 ∧ ((y6 ≠ 0 → X10_year_at24 d x1 x2 0 0 μ4 x μ') ∧ (y6 = 0 → (x = (-1) ∧ μ' = μ4)))))))) : X10_year (d + 1) x1 x2 μ x μ' := by
  refine Me_of [some (vr 10 0 0), some (vi x1), some (vi x2), none, none] rfl (Nat.le_of_ble_eq_true rfl) (by decide) ?_
  refine Ev_iload_n dX10_year_0 rfl ?_
  obtain ⟨y3, μ1, hM2, h⟩ := h
  refine Ev_callS [_] mlX10_442 rfl rfl (Nat.le_of_ble_eq_true rfl) dX10_year_1 hM2 ?_
  refine Ev_if_eq 17 dX10_year_4 (by decide) (fun q => ?_) (fun q => ?_)
  · have h := h.1 q
    refine Ev_iconst (-1) dX10_year_17 (by decide) ?_
    obtain ⟨rfl, rfl⟩ := h
    exact R_i rfl dX10_year_18 rfl
  · have h := h.2 q
    refine Ev_iload_n dX10_year_7 rfl ?_
    refine Ev_iconst 1 dX10_year_8 (by decide) ?_
    refine Ev_bipush 20 dX10_year_9 (by decide) ?_
    obtain ⟨y6, μ4, hM5, h⟩ := h
    refine Ev_callS [_, _, _] mlX10_323 rfl rfl (Nat.le_of_ble_eq_true rfl) dX10_year_11 hM5 ?_
    refine Ev_if_ne 19 dX10_year_14 (by decide) (fun q => ?_) (fun q => ?_)
    · have h := h.1 q
      refine Ev_iconst 0 dX10_year_19 (by decide) ?_
      refine Ev_istore_n dX10_year_20 (Nat.le_of_ble_eq_true rfl) (okp_of rfl) ?_
      refine Ev_iconst 0 dX10_year_21 (by decide) ?_
      refine Ev_istore dX10_year_22 (Nat.le_of_ble_eq_true rfl) (okp_of rfl) ?_
      exact h
    · have h := h.2 q
      refine Ev_iconst (-1) dX10_year_17 (by decide) ?_
      obtain ⟨rfl, rfl⟩ := h
      exact R_i rfl dX10_year_18 rfl
set_option maxHeartbeats 4000000 in
set_option maxRecDepth 100000 in
theorem X10_year_at24_ok {d : Nat} {x1 : Int32} {x2 : Int32} {x3 : Int32} {x4 : Int32} {μ μ' : Mem} {x : Int32} (h : ((x2 ≤ x4 → (x = x3 ∧ μ' = μ)) ∧ (¬ x2 ≤ x4 → (∃ (μ1 : Mem), X10_copies d μ μ1 ∧ (∀ μ3 : Mem, μ3 = sI μ1 0 52 ((μ1.1 0 52) + x4) → (∃ (μ4 : Mem), X10_goes d x1 μ3 μ4 ∧ (∃ (y8 : Int32) (μ6 : Mem), X10_moreIn d 76 μ4 y8 μ6 ∧ X10_year_at24 d x1 x2 (x3 + y8) (x4 + 1) μ6 x μ'))))))) : X10_year_at24 d x1 x2 x3 x4 μ x μ' := by
  refine Ev_iload dX10_year_24 rfl ?_
  refine Ev_iload_n dX10_year_26 rfl ?_
  refine Ev_icmp_ge 65 dX10_year_27 (by decide) (fun q => ?_) (fun q => ?_)
  · have h := h.1 q
    refine Ev_iload_n dX10_year_65 rfl ?_
    obtain ⟨rfl, rfl⟩ := h
    exact R_i rfl dX10_year_66 rfl
  · have h := h.2 q
    refine Ev_aload_n dX10_year_30 rfl ?_
    obtain ⟨μ1, hM2, h⟩ := h
    refine Ev_callV [] mlX10_381 rfl rfl (Nat.le_of_ble_eq_true rfl) dX10_year_31 hM2 ?_
    refine Ev_aload_n dX10_year_34 rfl ?_
    refine Ev_dup dX10_year_35 (fun _ z => by cases z) ?_
    refine Ev_getI flX10_327 rfl dX10_year_36 ?_
    refine Ev_iload dX10_year_39 rfl ?_
    refine Ev_iadd dX10_year_41 ?_
    refine Ev_putI .int flX10_327 fpX10_52 rfl rfl rfl dX10_year_42 ?_
    have h := h _ rfl
    refine Ev_aload_n dX10_year_45 rfl ?_
    refine Ev_iload_n dX10_year_46 rfl ?_
    obtain ⟨μ4, hM5, h⟩ := h
    refine Ev_callV [_] mlX10_402 rfl rfl (Nat.le_of_ble_eq_true rfl) dX10_year_47 hM5 ?_
    refine Ev_iload_n dX10_year_50 rfl ?_
    refine Ev_aload_n dX10_year_51 rfl ?_
    refine Ev_bipush 76 dX10_year_52 (by decide) ?_
    obtain ⟨y8, μ6, hM7, h⟩ := h
    refine Ev_callV [_] mlX10_445 rfl rfl (Nat.le_of_ble_eq_true rfl) dX10_year_54 hM7 ?_
    refine Ev_iadd dX10_year_57 ?_
    refine Ev_istore_n dX10_year_58 (Nat.le_of_ble_eq_true rfl) (okp_of rfl) ?_
    refine Ev_iinc (x4 + 1) dX10_year_59 rfl rfl (okp_of rfl) ?_
    refine Ev_goto 24 dX10_year_62 (by decide) ?_
    exact h
