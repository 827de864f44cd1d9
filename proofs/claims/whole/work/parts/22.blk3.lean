set_option maxHeartbeats 4000000 in
set_option maxRecDepth 100000 in
theorem X10_adds_ok {d : Nat} {x1 : Int32} {μ μ' : Mem} {x : Int32} (h : (∃ (y3 : Int32) (μ1 : Mem), X10_in d (x1 / 10) 1 8 μ y3 μ1 ∧ ((y3 = 0 → (x = 0 ∧ μ' = μ1)) ∧ (¬ y3 = 0 → (∃ (y6 : Int32) (μ4 : Mem), X10_in d (x1 - x1 / 10 * 10) 1 6 μ1 y6 μ4 ∧ ((y6 ≠ 0 → vp_in (μ4.1 0 61) 4 ∧ (∀ μ7 : Mem, μ7 = sI μ4 36 ((μ4.1 0 61).toNatClampNeg) (x1 / 10) → vp_in (μ7.1 0 61) 4 ∧ (∀ μ8 : Mem, μ8 = sI μ7 37 ((μ7.1 0 61).toNatClampNeg) (x1 - x1 / 10 * 10) → (∀ μ9 : Mem, μ9 = sI μ8 0 61 ((μ8.1 0 61) + 1) → (x = 1 ∧ μ' = μ9))))) ∧ (y6 = 0 → (x = 0 ∧ μ' = μ4)))))))) : X10_adds (d + 1) x1 μ x μ' := by
  refine Me_of [some (vr 10 0 0), some (vi x1), none, none] rfl (Nat.le_of_ble_eq_true rfl) (by decide) ?_
  refine Ev_iload_n dX10_adds_0 rfl ?_
  refine Ev_bipush 10 dX10_adds_1 (by decide) ?_
  refine Ev_idiv dX10_adds_3 (by decide) ?_
  refine Ev_istore_n dX10_adds_4 (Nat.le_of_ble_eq_true rfl) (okp_of rfl) ?_
  refine Ev_iload_n dX10_adds_5 rfl ?_
  refine Ev_bipush 10 dX10_adds_6 (by decide) ?_
  refine Ev_irem dX10_adds_8 (by decide) ?_
  refine Ev_istore_n dX10_adds_9 (Nat.le_of_ble_eq_true rfl) (okp_of rfl) ?_
  refine Ev_iload_n dX10_adds_10 rfl ?_
  refine Ev_iconst 1 dX10_adds_11 (by decide) ?_
  refine Ev_bipush 8 dX10_adds_12 (by decide) ?_
  obtain ⟨y3, μ1, hM2, h⟩ := h
  refine Ev_callS [_, _, _] mlX10_323 rfl rfl (Nat.le_of_ble_eq_true rfl) dX10_adds_14 hM2 ?_
  refine Ev_if_eq 30 dX10_adds_17 (by decide) (fun q => ?_) (fun q => ?_)
  · have h := h.1 q
    refine Ev_iconst 0 dX10_adds_30 (by decide) ?_
    obtain ⟨rfl, rfl⟩ := h
    exact R_i rfl dX10_adds_31 rfl
  · have h := h.2 q
    refine Ev_iload_n dX10_adds_20 rfl ?_
    refine Ev_iconst 1 dX10_adds_21 (by decide) ?_
    refine Ev_bipush 6 dX10_adds_22 (by decide) ?_
    obtain ⟨y6, μ4, hM5, h⟩ := h
    refine Ev_callS [_, _, _] mlX10_323 rfl rfl (Nat.le_of_ble_eq_true rfl) dX10_adds_24 hM5 ?_
    refine Ev_if_ne 32 dX10_adds_27 (by decide) (fun q => ?_) (fun q => ?_)
    · have h := h.1 q
      refine Ev_aload_n dX10_adds_32 rfl ?_
      refine Ev_getF 11 4 36 flX10_125 rfl dX10_adds_33 ?_
      refine Ev_aload_n dX10_adds_36 rfl ?_
      refine Ev_getI flX10_427 rfl dX10_adds_37 ?_
      refine Ev_iload_n dX10_adds_40 rfl ?_
      obtain ⟨g, h⟩ := h
      refine Ev_iast g dX10_adds_41 ?_
      have h := h _ rfl
      refine Ev_aload_n dX10_adds_42 rfl ?_
      refine Ev_getF 11 4 37 flX10_128 rfl dX10_adds_43 ?_
      refine Ev_aload_n dX10_adds_46 rfl ?_
      refine Ev_getI flX10_427 rfl dX10_adds_47 ?_
      refine Ev_iload_n dX10_adds_50 rfl ?_
      obtain ⟨g, h⟩ := h
      refine Ev_iast g dX10_adds_51 ?_
      have h := h _ rfl
      refine Ev_aload_n dX10_adds_52 rfl ?_
      refine Ev_dup dX10_adds_53 (fun _ z => by cases z) ?_
      refine Ev_getI flX10_427 rfl dX10_adds_54 ?_
      refine Ev_iconst 1 dX10_adds_57 (by decide) ?_
      refine Ev_iadd dX10_adds_58 ?_
      refine Ev_putI .int flX10_427 fpX10_61 rfl rfl rfl dX10_adds_59 ?_
      have h := h _ rfl
      refine Ev_iconst 1 dX10_adds_62 (by decide) ?_
      obtain ⟨rfl, rfl⟩ := h
      exact R_i rfl dX10_adds_63 rfl
    · have h := h.2 q
      refine Ev_iconst 0 dX10_adds_30 (by decide) ?_
      obtain ⟨rfl, rfl⟩ := h
      exact R_i rfl dX10_adds_31 rfl
set_option maxHeartbeats 4000000 in
set_option maxRecDepth 100000 in
theorem X10_agree_ok {d : Nat} {x1 : Int32} {x2 : Int32} {μ μ' : Mem} {x : Int32} (h : (∃ (y3 : Int32) (μ1 : Mem), X10_isLoom d x1 μ y3 μ1 ∧ ((y3 = 0 → (x = (-1) ∧ μ' = μ1)) ∧ (¬ y3 = 0 → (∃ (y6 : Int32) (μ4 : Mem), X10_isLoom d x2 μ1 y6 μ4 ∧ ((y6 = 0 → (x = (-1) ∧ μ' = μ4)) ∧ (¬ y6 = 0 → ((x1 ≠ x2 → X10_agree_at25 d x1 x2 0 μ4 x μ') ∧ (x1 = x2 → (x = (-1) ∧ μ' = μ4)))))))))) : X10_agree (d + 1) x1 x2 μ x μ' := by
  refine Me_of [some (vr 10 0 0), some (vi x1), some (vi x2), none, none, none] rfl (Nat.le_of_ble_eq_true rfl) (by decide) ?_
  refine Ev_aload_n dX10_agree_0 rfl ?_
  refine Ev_iload_n dX10_agree_1 rfl ?_
  obtain ⟨y3, μ1, hM2, h⟩ := h
  refine Ev_callV [_] mlX10_393 rfl rfl (Nat.le_of_ble_eq_true rfl) dX10_agree_2 hM2 ?_
  refine Ev_if_eq 21 dX10_agree_5 (by decide) (fun q => ?_) (fun q => ?_)
  · have h := h.1 q
    refine Ev_iconst (-1) dX10_agree_21 (by decide) ?_
    obtain ⟨rfl, rfl⟩ := h
    exact R_i rfl dX10_agree_22 rfl
  · have h := h.2 q
    refine Ev_aload_n dX10_agree_8 rfl ?_
    refine Ev_iload_n dX10_agree_9 rfl ?_
    obtain ⟨y6, μ4, hM5, h⟩ := h
    refine Ev_callV [_] mlX10_393 rfl rfl (Nat.le_of_ble_eq_true rfl) dX10_agree_10 hM5 ?_
    refine Ev_if_eq 21 dX10_agree_13 (by decide) (fun q => ?_) (fun q => ?_)
    · have h := h.1 q
      refine Ev_iconst (-1) dX10_agree_21 (by decide) ?_
      obtain ⟨rfl, rfl⟩ := h
      exact R_i rfl dX10_agree_22 rfl
    · have h := h.2 q
      refine Ev_iload_n dX10_agree_16 rfl ?_
      refine Ev_iload_n dX10_agree_17 rfl ?_
      refine Ev_icmp_ne 23 dX10_agree_18 (by decide) (fun q => ?_) (fun q => ?_)
      · have h := h.1 q
        refine Ev_iconst 0 dX10_agree_23 (by decide) ?_
        refine Ev_istore_n dX10_agree_24 (Nat.le_of_ble_eq_true rfl) (okp_of rfl) ?_
        exact h
      · have h := h.2 q
        refine Ev_iconst (-1) dX10_agree_21 (by decide) ?_
        obtain ⟨rfl, rfl⟩ := h
        exact R_i rfl dX10_agree_22 rfl
set_option maxHeartbeats 4000000 in
set_option maxRecDepth 100000 in
theorem X10_agree_at25_ok {d : Nat} {x1 : Int32} {x2 : Int32} {x3 : Int32} {μ μ' : Mem} {x : Int32} (h : ((200 < x3 → (x = (-2) ∧ μ' = μ)) ∧ (¬ 200 < x3 → X10_agree_at38 d x1 x2 x3 1 0 μ x μ'))) : X10_agree_at25 d x1 x2 x3 μ x μ' := by
  refine Ev_iload_n dX10_agree_25 rfl ?_
  refine Ev_sipush 200 dX10_agree_26 (by decide) ?_
  refine Ev_icmp_gt 135 dX10_agree_29 (by decide) (fun q => ?_) (fun q => ?_)
  · have h := h.1 q
    refine Ev_bipush (-2) dX10_agree_135 (by decide) ?_
    obtain ⟨rfl, rfl⟩ := h
    exact R_i rfl dX10_agree_137 rfl
  · have h := h.2 q
    refine Ev_iconst 1 dX10_agree_32 (by decide) ?_
    refine Ev_istore dX10_agree_33 (Nat.le_of_ble_eq_true rfl) (okp_of rfl) ?_
    refine Ev_iconst 0 dX10_agree_35 (by decide) ?_
    refine Ev_istore dX10_agree_36 (Nat.le_of_ble_eq_true rfl) (okp_of rfl) ?_
    exact h
set_option maxHeartbeats 4000000 in
set_option maxRecDepth 100000 in
theorem X10_agree_at38_ok {d : Nat} {x1 : Int32} {x2 : Int32} {x3 : Int32} {x4 : Int32} {x5 : Int32} {μ μ' : Mem} {x : Int32} (h : vp_in ((4 * (μ.1 0 18)) + x1) 8 ∧ (((μ.1 16 (((4 * (μ.1 0 18)) + x1).toNatClampNeg)) ≤ x5 → ((x4 = 0 → X10_agree_at25 d x1 x2 (x3 + 1) μ x μ') ∧ (¬ x4 = 0 → (x = x3 ∧ μ' = μ)))) ∧ (¬ (μ.1 16 (((4 * (μ.1 0 18)) + x1).toNatClampNeg)) ≤ x5 → vp_in ((4 * (μ.1 0 18)) + x2) 8 ∧ (((μ.1 16 (((4 * (μ.1 0 18)) + x2).toNatClampNeg)) ≤ x5 → ((x4 = 0 → X10_agree_at25 d x1 x2 (x3 + 1) μ x μ') ∧ (¬ x4 = 0 → (x = x3 ∧ μ' = μ)))) ∧ (¬ (μ.1 16 (((4 * (μ.1 0 18)) + x2).toNatClampNeg)) ≤ x5 → vp_in (48 + x1) 92 ∧ (∃ (y3 : Int32) (μ1 : Mem), X10_threadOf d x1 x5 ((μ.1 33 ((48 + x1).toNatClampNeg)) + x3) μ y3 μ1 ∧ vp_in (48 + x2) 92 ∧ (∃ (y6 : Int32) (μ4 : Mem), X10_threadOf d x2 x5 ((μ1.1 33 ((48 + x2).toNatClampNeg)) + x3) μ1 y6 μ4 ∧ ((y3 = y6 → X10_agree_at38 d x1 x2 x3 x4 (x5 + 1) μ4 x μ') ∧ (¬ y3 = y6 → X10_agree_at38 d x1 x2 x3 0 (x5 + 1) μ4 x μ'))))))))) : X10_agree_at38 d x1 x2 x3 x4 x5 μ x μ' := by
  refine Ev_iload dX10_agree_38 rfl ?_
  refine Ev_aload_n dX10_agree_40 rfl ?_
  refine Ev_getF 11 8 16 flX10_64 rfl dX10_agree_41 ?_
  refine Ev_iconst 4 dX10_agree_44 (by decide) ?_
  refine Ev_aload_n dX10_agree_45 rfl ?_
  refine Ev_getI flX10_239 rfl dX10_agree_46 ?_
  refine Ev_imul dX10_agree_49 ?_
  refine Ev_iload_n dX10_agree_50 rfl ?_
  refine Ev_iadd dX10_agree_51 ?_
  obtain ⟨g, h⟩ := h
  refine Ev_iald g dX10_agree_52 ?_
  refine Ev_icmp_ge 122 dX10_agree_53 (by decide) (fun q => ?_) (fun q => ?_)
  · have h := h.1 q
    refine Ev_iload dX10_agree_122 rfl ?_
    refine Ev_if_eq 129 dX10_agree_124 (by decide) (fun q => ?_) (fun q => ?_)
    · have h := h.1 q
      refine Ev_iinc (x3 + 1) dX10_agree_129 rfl rfl (okp_of rfl) ?_
      refine Ev_goto 25 dX10_agree_132 (by decide) ?_
      refine Ev_weak ?_ h
      exact And.intro rfl (And.intro rfl (And.intro rfl (And.intro rfl (And.intro trivial (And.intro trivial (trivial))))))
    · have h := h.2 q
      refine Ev_iload_n dX10_agree_127 rfl ?_
      obtain ⟨rfl, rfl⟩ := h
      exact R_i rfl dX10_agree_128 rfl
  · have h := h.2 q
    refine Ev_iload dX10_agree_56 rfl ?_
    refine Ev_aload_n dX10_agree_58 rfl ?_
    refine Ev_getF 11 8 16 flX10_64 rfl dX10_agree_59 ?_
    refine Ev_iconst 4 dX10_agree_62 (by decide) ?_
    refine Ev_aload_n dX10_agree_63 rfl ?_
    refine Ev_getI flX10_239 rfl dX10_agree_64 ?_
    refine Ev_imul dX10_agree_67 ?_
    refine Ev_iload_n dX10_agree_68 rfl ?_
    refine Ev_iadd dX10_agree_69 ?_
    obtain ⟨g, h⟩ := h
    refine Ev_iald g dX10_agree_70 ?_
    refine Ev_icmp_ge 122 dX10_agree_71 (by decide) (fun q => ?_) (fun q => ?_)
    · have h := h.1 q
      refine Ev_iload dX10_agree_122 rfl ?_
      refine Ev_if_eq 129 dX10_agree_124 (by decide) (fun q => ?_) (fun q => ?_)
      · have h := h.1 q
        refine Ev_iinc (x3 + 1) dX10_agree_129 rfl rfl (okp_of rfl) ?_
        refine Ev_goto 25 dX10_agree_132 (by decide) ?_
        refine Ev_weak ?_ h
        exact And.intro rfl (And.intro rfl (And.intro rfl (And.intro rfl (And.intro trivial (And.intro trivial (trivial))))))
      · have h := h.2 q
        refine Ev_iload_n dX10_agree_127 rfl ?_
        obtain ⟨rfl, rfl⟩ := h
        exact R_i rfl dX10_agree_128 rfl
    · have h := h.2 q
      refine Ev_aload_n dX10_agree_74 rfl ?_
      refine Ev_iload_n dX10_agree_75 rfl ?_
      refine Ev_iload dX10_agree_76 rfl ?_
      refine Ev_aload_n dX10_agree_78 rfl ?_
      refine Ev_getF 11 92 33 flX10_116 rfl dX10_agree_79 ?_
      refine Ev_bipush 48 dX10_agree_82 (by decide) ?_
      refine Ev_iload_n dX10_agree_84 rfl ?_
      refine Ev_iadd dX10_agree_85 ?_
      obtain ⟨g, h⟩ := h
      refine Ev_iald g dX10_agree_86 ?_
      refine Ev_iload_n dX10_agree_87 rfl ?_
      refine Ev_iadd dX10_agree_88 ?_
      obtain ⟨y3, μ1, hM2, h⟩ := h
      refine Ev_callV [_, _, _] mlX10_356 rfl rfl (Nat.le_of_ble_eq_true rfl) dX10_agree_89 hM2 ?_
      refine Ev_aload_n dX10_agree_92 rfl ?_
      refine Ev_iload_n dX10_agree_93 rfl ?_
      refine Ev_iload dX10_agree_94 rfl ?_
      refine Ev_aload_n dX10_agree_96 rfl ?_
      refine Ev_getF 11 92 33 flX10_116 rfl dX10_agree_97 ?_
      refine Ev_bipush 48 dX10_agree_100 (by decide) ?_
      refine Ev_iload_n dX10_agree_102 rfl ?_
      refine Ev_iadd dX10_agree_103 ?_
      obtain ⟨g, h⟩ := h
      refine Ev_iald g dX10_agree_104 ?_
      refine Ev_iload_n dX10_agree_105 rfl ?_
      refine Ev_iadd dX10_agree_106 ?_
      obtain ⟨y6, μ4, hM5, h⟩ := h
      refine Ev_callV [_, _, _] mlX10_356 rfl rfl (Nat.le_of_ble_eq_true rfl) dX10_agree_107 hM5 ?_
      refine Ev_icmp_eq 116 dX10_agree_110 (by decide) (fun q => ?_) (fun q => ?_)
      · have h := h.1 q
        refine Ev_iinc (x5 + 1) dX10_agree_116 rfl rfl (okp_of rfl) ?_
        refine Ev_goto 38 dX10_agree_119 (by decide) ?_
        exact h
      · have h := h.2 q
        refine Ev_iconst 0 dX10_agree_113 (by decide) ?_
        refine Ev_istore dX10_agree_114 (Nat.le_of_ble_eq_true rfl) (okp_of rfl) ?_
        refine Ev_iinc (x5 + 1) dX10_agree_116 rfl rfl (okp_of rfl) ?_
        refine Ev_goto 38 dX10_agree_119 (by decide) ?_
        exact h
set_option maxHeartbeats 4000000 in
set_option maxRecDepth 100000 in
theorem X10_all_ok {d : Nat} {x1 : Int32} {x2 : Int32} {μ μ' : Mem} {x : Int32} (h : (∃ (y3 : Int32) (μ1 : Mem), X10_isLong d x1 μ y3 μ1 ∧ ((y3 = 0 → (x = (-1) ∧ μ' = μ1)) ∧ (¬ y3 = 0 → (∃ (y6 : Int32) (μ4 : Mem), X10_in d x2 0 2 μ1 y6 μ4 ∧ ((y6 ≠ 0 → (∃ (μ7 : Mem), X10_copies d μ4 μ7 ∧ (∃ (μ9 : Mem), X10_goes d x1 μ7 μ9 ∧ ((x2 ≠ 2 → (∃ (y13 : Int32) (μ11 : Mem), X10_moreIn d (76 + (6 * x2)) μ9 y13 μ11 ∧ (x = y13 ∧ μ' = μ11))) ∧ (x2 = 2 → (x = μ9.1 34 88 ∧ μ' = μ9)))))) ∧ (y6 = 0 → (x = (-1) ∧ μ' = μ4)))))))) : X10_all (d + 1) x1 x2 μ x μ' := by
  refine Me_of [some (vr 10 0 0), some (vi x1), some (vi x2)] rfl (Nat.le_of_ble_eq_true rfl) (by decide) ?_
  refine Ev_iload_n dX10_all_0 rfl ?_
  obtain ⟨y3, μ1, hM2, h⟩ := h
  refine Ev_callS [_] mlX10_442 rfl rfl (Nat.le_of_ble_eq_true rfl) dX10_all_1 hM2 ?_
  refine Ev_if_eq 16 dX10_all_4 (by decide) (fun q => ?_) (fun q => ?_)
  · have h := h.1 q
    refine Ev_iconst (-1) dX10_all_16 (by decide) ?_
    obtain ⟨rfl, rfl⟩ := h
    exact R_i rfl dX10_all_17 rfl
  · have h := h.2 q
    refine Ev_iload_n dX10_all_7 rfl ?_
    refine Ev_iconst 0 dX10_all_8 (by decide) ?_
    refine Ev_iconst 2 dX10_all_9 (by decide) ?_
    obtain ⟨y6, μ4, hM5, h⟩ := h
    refine Ev_callS [_, _, _] mlX10_323 rfl rfl (Nat.le_of_ble_eq_true rfl) dX10_all_10 hM5 ?_
    refine Ev_if_ne 18 dX10_all_13 (by decide) (fun q => ?_) (fun q => ?_)
    · have h := h.1 q
      refine Ev_aload_n dX10_all_18 rfl ?_
      obtain ⟨μ7, hM8, h⟩ := h
      refine Ev_callV [] mlX10_381 rfl rfl (Nat.le_of_ble_eq_true rfl) dX10_all_19 hM8 ?_
      refine Ev_aload_n dX10_all_22 rfl ?_
      refine Ev_iload_n dX10_all_23 rfl ?_
      obtain ⟨μ9, hM10, h⟩ := h
      refine Ev_callV [_] mlX10_402 rfl rfl (Nat.le_of_ble_eq_true rfl) dX10_all_24 hM10 ?_
      refine Ev_iload_n dX10_all_27 rfl ?_
      refine Ev_iconst 2 dX10_all_28 (by decide) ?_
      refine Ev_icmp_ne 42 dX10_all_29 (by decide) (fun q => ?_) (fun q => ?_)
      · have h := h.1 q
        refine Ev_aload_n dX10_all_42 rfl ?_
        refine Ev_bipush 76 dX10_all_43 (by decide) ?_
        refine Ev_bipush 6 dX10_all_45 (by decide) ?_
        refine Ev_iload_n dX10_all_47 rfl ?_
        refine Ev_imul dX10_all_48 ?_
        refine Ev_iadd dX10_all_49 ?_
        obtain ⟨y13, μ11, hM12, h⟩ := h
        refine Ev_callV [_] mlX10_445 rfl rfl (Nat.le_of_ble_eq_true rfl) dX10_all_50 hM12 ?_
        obtain ⟨rfl, rfl⟩ := h
        exact R_i rfl dX10_all_53 rfl
      · have h := h.2 q
        refine Ev_aload_n dX10_all_32 rfl ?_
        refine Ev_getF 11 92 34 flX10_119 rfl dX10_all_33 ?_
        refine Ev_bipush 88 dX10_all_36 (by decide) ?_
        refine Ev_iald (n := 92) (vp_lit (by decide)) dX10_all_38 ?_
        refine Ev_goto 53 dX10_all_39 (by decide) ?_
        obtain ⟨rfl, rfl⟩ := h
        exact R_i rfl dX10_all_53 rfl
    · have h := h.2 q
      refine Ev_iconst (-1) dX10_all_16 (by decide) ?_
      obtain ⟨rfl, rfl⟩ := h
      exact R_i rfl dX10_all_17 rfl
set_option maxHeartbeats 4000000 in
set_option maxRecDepth 100000 in
theorem X10_appends_ok {d : Nat} {x0 : Int64} {x2 : Int32} {μ μ' : Mem} {x : Int64} (h : ((x2 ≠ 0 → (x = (27 * x0) + (((x2 - 97) + 1).toInt64) ∧ μ' = μ)) ∧ (x2 = 0 → (x = x0 ∧ μ' = μ)))) : X10_appends d x0 x2 μ x μ' := by
  refine Me_of [some (vl x0), none, some (vi x2)] rfl (Nat.le_of_ble_eq_true rfl) (by decide) ?_
  refine Ev_iload_n dX10_appends_0 rfl ?_
  refine Ev_if_ne 8 dX10_appends_1 (by decide) (fun q => ?_) (fun q => ?_)
  · have h := h.1 q
    refine Ev_ldc2 27 dX10_appends_8 (ts5 200 rfl rfl) ?_
    refine Ev_lload_n dX10_appends_11 rfl ?_
    refine Ev_lmul dX10_appends_12 ?_
    refine Ev_iload_n dX10_appends_13 rfl ?_
    refine Ev_bipush 97 dX10_appends_14 (by decide) ?_
    refine Ev_isub dX10_appends_16 ?_
    refine Ev_iconst 1 dX10_appends_17 (by decide) ?_
    refine Ev_iadd dX10_appends_18 ?_
    refine Ev_i2l dX10_appends_19 ?_
    refine Ev_ladd dX10_appends_20 ?_
    obtain ⟨rfl, rfl⟩ := h
    exact R_l rfl dX10_appends_21
  · have h := h.2 q
    refine Ev_lload_n dX10_appends_4 rfl ?_
    refine Ev_goto 21 dX10_appends_5 (by decide) ?_
    obtain ⟨rfl, rfl⟩ := h
    exact R_l rfl dX10_appends_21
set_option maxHeartbeats 4000000 in
set_option maxRecDepth 100000 in
theorem X10_areFields_ok {d : Nat}  {μ μ' : Mem} {x : Int32} (h : X10_areFields_at2 d 0 μ x μ') : X10_areFields d μ x μ' := by
  refine Me_of [some (vr 10 0 0), none, none] rfl (Nat.le_of_ble_eq_true rfl) (by decide) ?_
  refine Ev_iconst 0 dX10_areFields_0 (by decide) ?_
  refine Ev_istore_n dX10_areFields_1 (Nat.le_of_ble_eq_true rfl) (okp_of rfl) ?_
  exact h
set_option maxHeartbeats 4000000 in
set_option maxRecDepth 100000 in
theorem X10_areFields_at2_ok {d : Nat} {x1 : Int32} {μ μ' : Mem} {x : Int32} (h : vp_in (μ.1 0 19) 2 ∧ (((μ.1 9 ((μ.1 0 19).toNatClampNeg)) ≤ x1 → (x = 1 ∧ μ' = μ)) ∧ (¬ (μ.1 9 ((μ.1 0 19).toNatClampNeg)) ≤ x1 → X10_areFields_at17 d x1 0 μ x μ'))) : X10_areFields_at2 d x1 μ x μ' := by
  refine Ev_iload_n dX10_areFields_2 rfl ?_
  refine Ev_aload_n dX10_areFields_3 rfl ?_
  refine Ev_getF 11 2 9 flX10_43 rfl dX10_areFields_4 ?_
  refine Ev_aload_n dX10_areFields_7 rfl ?_
  refine Ev_getI flX10_242 rfl dX10_areFields_8 ?_
  obtain ⟨g, h⟩ := h
  refine Ev_iald g dX10_areFields_11 ?_
  refine Ev_icmp_ge 75 dX10_areFields_12 (by decide) (fun q => ?_) (fun q => ?_)
  · have h := h.1 q
    refine Ev_iconst 1 dX10_areFields_75 (by decide) ?_
    obtain ⟨rfl, rfl⟩ := h
    exact R_i rfl dX10_areFields_76 rfl
  · have h := h.2 q
    refine Ev_iconst 0 dX10_areFields_15 (by decide) ?_
    refine Ev_istore_n dX10_areFields_16 (Nat.le_of_ble_eq_true rfl) (okp_of rfl) ?_
    exact h
set_option maxHeartbeats 4000000 in
set_option maxRecDepth 100000 in
theorem X10_areFields_at17_ok {d : Nat} {x1 : Int32} {x2 : Int32} {μ μ' : Mem} {x : Int32} (h : vp_in (μ.1 0 19) 2 ∧ (((μ.1 10 ((μ.1 0 19).toNatClampNeg)) ≤ x2 → X10_areFields_at2 d (x1 + 1) μ x μ') ∧ (¬ (μ.1 10 ((μ.1 0 19).toNatClampNeg)) ≤ x2 → vp_in (((48 * (μ.1 0 19)) + (8 * x1)) + x2) 96 ∧ vp_in (μ.1 0 19) 2 ∧ (((μ.1 11 ((((48 * (μ.1 0 19)) + (8 * x1)) + x2).toNatClampNeg)) < (μ.1 12 ((μ.1 0 19).toNatClampNeg)) → X10_areFields_at17 d x1 (x2 + 1) μ x μ') ∧ (¬ (μ.1 11 ((((48 * (μ.1 0 19)) + (8 * x1)) + x2).toNatClampNeg)) < (μ.1 12 ((μ.1 0 19).toNatClampNeg)) → (x = 0 ∧ μ' = μ)))))) : X10_areFields_at17 d x1 x2 μ x μ' := by
  refine Ev_iload_n dX10_areFields_17 rfl ?_
  refine Ev_aload_n dX10_areFields_18 rfl ?_
  refine Ev_getF 11 2 10 flX10_46 rfl dX10_areFields_19 ?_
  refine Ev_aload_n dX10_areFields_22 rfl ?_
  refine Ev_getI flX10_242 rfl dX10_areFields_23 ?_
  obtain ⟨g, h⟩ := h
  refine Ev_iald g dX10_areFields_26 ?_
  refine Ev_icmp_ge 69 dX10_areFields_27 (by decide) (fun q => ?_) (fun q => ?_)
  · have h := h.1 q
    refine Ev_iinc (x1 + 1) dX10_areFields_69 rfl rfl (okp_of rfl) ?_
    refine Ev_goto 2 dX10_areFields_72 (by decide) ?_
    refine Ev_weak ?_ h
    exact And.intro rfl (And.intro rfl (And.intro trivial (trivial)))
  · have h := h.2 q
    refine Ev_aload_n dX10_areFields_30 rfl ?_
    refine Ev_getF 11 96 11 flX10_49 rfl dX10_areFields_31 ?_
    refine Ev_bipush 48 dX10_areFields_34 (by decide) ?_
    refine Ev_aload_n dX10_areFields_36 rfl ?_
    refine Ev_getI flX10_242 rfl dX10_areFields_37 ?_
    refine Ev_imul dX10_areFields_40 ?_
    refine Ev_bipush 8 dX10_areFields_41 (by decide) ?_
    refine Ev_iload_n dX10_areFields_43 rfl ?_
    refine Ev_imul dX10_areFields_44 ?_
    refine Ev_iadd dX10_areFields_45 ?_
    refine Ev_iload_n dX10_areFields_46 rfl ?_
    refine Ev_iadd dX10_areFields_47 ?_
    obtain ⟨g, h⟩ := h
    refine Ev_iald g dX10_areFields_48 ?_
    refine Ev_aload_n dX10_areFields_49 rfl ?_
    refine Ev_getF 11 2 12 flX10_52 rfl dX10_areFields_50 ?_
    refine Ev_aload_n dX10_areFields_53 rfl ?_
    refine Ev_getI flX10_242 rfl dX10_areFields_54 ?_
    obtain ⟨g, h⟩ := h
    refine Ev_iald g dX10_areFields_57 ?_
    refine Ev_icmp_lt 63 dX10_areFields_58 (by decide) (fun q => ?_) (fun q => ?_)
    · have h := h.1 q
      refine Ev_iinc (x2 + 1) dX10_areFields_63 rfl rfl (okp_of rfl) ?_
      refine Ev_goto 17 dX10_areFields_66 (by decide) ?_
      exact h
    · have h := h.2 q
      refine Ev_iconst 0 dX10_areFields_61 (by decide) ?_
      obtain ⟨rfl, rfl⟩ := h
      exact R_i rfl dX10_areFields_62 rfl
set_option maxHeartbeats 4000000 in
set_option maxRecDepth 100000 in
theorem X10_asks_ok {d : Nat} {x1 : Int32} {x2 : Int32} {x3 : Int32} {μ μ' : Mem} {x : Int32} (h : vp_in ((3 * (μ.1 0 18)) + x1) 6 ∧ vp_in ((3 * (μ.1 0 18)) + x1) 6 ∧ (((μ.1 21 (((3 * (μ.1 0 18)) + x1).toNatClampNeg)) ≠ (μ.1 22 (((3 * (μ.1 0 18)) + x1).toNatClampNeg)) → (∀ μ1 : Mem, μ1 = sI μ 0 49 0 → vp_in ((3 * (μ.1 0 18)) + x1) 6 ∧ X10_asks_at43 d x3 ((3 * (μ.1 0 18)) + x1) (μ1.1 21 (((3 * (μ.1 0 18)) + x1).toNatClampNeg)) μ1 x μ')) ∧ ((μ.1 21 (((3 * (μ.1 0 18)) + x1).toNatClampNeg)) = (μ.1 22 (((3 * (μ.1 0 18)) + x1).toNatClampNeg)) → (x = x2 ∧ μ' = μ)))) : X10_asks (d + 1) x1 x2 x3 μ x μ' := by
  refine Me_of [some (vr 10 0 0), some (vi x1), some (vi x2), some (vi x3), none, none, none, none] rfl (Nat.le_of_ble_eq_true rfl) (by decide) ?_
  refine Ev_iconst 3 dX10_asks_0 (by decide) ?_
  refine Ev_aload_n dX10_asks_1 rfl ?_
  refine Ev_getI flX10_239 rfl dX10_asks_2 ?_
  refine Ev_imul dX10_asks_5 ?_
  refine Ev_iload_n dX10_asks_6 rfl ?_
  refine Ev_iadd dX10_asks_7 ?_
  refine Ev_istore dX10_asks_8 (Nat.le_of_ble_eq_true rfl) (okp_of rfl) ?_
  refine Ev_aload_n dX10_asks_10 rfl ?_
  refine Ev_getF 11 6 21 flX10_79 rfl dX10_asks_11 ?_
  refine Ev_iload dX10_asks_14 rfl ?_
  obtain ⟨g, h⟩ := h
  refine Ev_iald g dX10_asks_16 ?_
  refine Ev_aload_n dX10_asks_17 rfl ?_
  refine Ev_getF 11 6 22 flX10_82 rfl dX10_asks_18 ?_
  refine Ev_iload dX10_asks_21 rfl ?_
  obtain ⟨g, h⟩ := h
  refine Ev_iald g dX10_asks_23 ?_
  refine Ev_icmp_ne 29 dX10_asks_24 (by decide) (fun q => ?_) (fun q => ?_)
  · have h := h.1 q
    refine Ev_aload_n dX10_asks_29 rfl ?_
    refine Ev_iconst 0 dX10_asks_30 (by decide) ?_
    refine Ev_putI .boolean flX10_319 fpX10_49 rfl rfl rfl dX10_asks_31 ?_
    have h := h _ rfl
    refine Ev_aload_n dX10_asks_34 rfl ?_
    refine Ev_getF 11 6 21 flX10_79 rfl dX10_asks_35 ?_
    refine Ev_iload dX10_asks_38 rfl ?_
    obtain ⟨g, h⟩ := h
    refine Ev_iald g dX10_asks_40 ?_
    refine Ev_istore dX10_asks_41 (Nat.le_of_ble_eq_true rfl) (okp_of rfl) ?_
    refine Ev_weak ?_ h
    exact And.intro rfl (And.intro trivial (And.intro trivial (And.intro rfl (And.intro rfl (And.intro rfl (And.intro trivial (And.intro trivial (trivial))))))))
  · have h := h.2 q
    refine Ev_iload_n dX10_asks_27 rfl ?_
    obtain ⟨rfl, rfl⟩ := h
    exact R_i rfl dX10_asks_28 rfl
set_option maxHeartbeats 4000000 in
set_option maxRecDepth 100000 in
theorem X10_asks_at43_ok {d : Nat} {x3 : Int32} {x4 : Int32} {x5 : Int32} {μ μ' : Mem} {x : Int32} (h : vp_in x4 6 ∧ (((μ.1 22 x4.toNatClampNeg) ≤ x5 → (x = 0 ∧ μ' = μ)) ∧ (¬ (μ.1 22 x4.toNatClampNeg) ≤ x5 → vp_in x5 260 ∧ (((μ.1 23 x5.toNatClampNeg) = 0 → vp_in x5 260 ∧ vp_in x5 260 ∧ (∃ (y3 : Int32) (μ1 : Mem), X10_termOf d (μ.1 26 x5.toNatClampNeg) (μ.1 27 x5.toNatClampNeg) μ y3 μ1 ∧ (((μ1.1 0 49) ≠ 0 → (x = 0 ∧ μ' = μ1)) ∧ ((μ1.1 0 49) = 0 → ((0 ≤ y3 → ((y3 ≤ x3 → (x = y3 ∧ μ' = μ1)) ∧ (¬ y3 ≤ x3 → (x = x3 ∧ μ' = μ1)))) ∧ (¬ 0 ≤ y3 → (x = 0 ∧ μ' = μ1))))))) ∧ (¬ (μ.1 23 x5.toNatClampNeg) = 0 → vp_in x5 260 ∧ vp_in x5 260 ∧ (∃ (y6 : Int32) (μ4 : Mem), X10_termOf d (μ.1 24 x5.toNatClampNeg) (μ.1 25 x5.toNatClampNeg) μ y6 μ4 ∧ vp_in x5 260 ∧ vp_in x5 260 ∧ (∃ (y9 : Int32) (μ7 : Mem), X10_termOf d (μ4.1 25 x5.toNatClampNeg) (μ4.1 26 x5.toNatClampNeg) μ4 y9 μ7 ∧ (((μ7.1 0 49) = 0 → ((y6 < y9 → vp_in x5 260 ∧ vp_in x5 260 ∧ (∃ (y12 : Int32) (μ10 : Mem), X10_termOf d (μ7.1 26 x5.toNatClampNeg) (μ7.1 27 x5.toNatClampNeg) μ7 y12 μ10 ∧ (((μ10.1 0 49) ≠ 0 → (x = 0 ∧ μ' = μ10)) ∧ ((μ10.1 0 49) = 0 → ((0 ≤ y12 → ((y12 ≤ x3 → (x = y12 ∧ μ' = μ10)) ∧ (¬ y12 ≤ x3 → (x = x3 ∧ μ' = μ10)))) ∧ (¬ 0 ≤ y12 → (x = 0 ∧ μ' = μ10))))))) ∧ (¬ y6 < y9 → X10_asks_at43 d x3 x4 (x5 + 1) μ7 x μ'))) ∧ (¬ (μ7.1 0 49) = 0 → (x = 0 ∧ μ' = μ7)))))))))) : X10_asks_at43 d x3 x4 x5 μ x μ' := by
  refine Ev_iload dX10_asks_43 rfl ?_
  refine Ev_aload_n dX10_asks_45 rfl ?_
  refine Ev_getF 11 6 22 flX10_82 rfl dX10_asks_46 ?_
  refine Ev_iload dX10_asks_49 rfl ?_
  obtain ⟨g, h⟩ := h
  refine Ev_iald g dX10_asks_51 ?_
  refine Ev_icmp_ge 179 dX10_asks_52 (by decide) (fun q => ?_) (fun q => ?_)
  · have h := h.1 q
    refine Ev_iconst 0 dX10_asks_179 (by decide) ?_
    obtain ⟨rfl, rfl⟩ := h
    exact R_i rfl dX10_asks_180 rfl
  · have h := h.2 q
    refine Ev_aload_n dX10_asks_55 rfl ?_
    refine Ev_getF 14 260 23 flX10_85 rfl dX10_asks_56 ?_
    refine Ev_iload dX10_asks_59 rfl ?_
    obtain ⟨g, h⟩ := h
    refine Ev_zald g dX10_asks_61 ?_
    refine Ev_if_eq 124 dX10_asks_62 (by decide) (fun q => ?_) (fun q => ?_)
    · have h := h.1 q
      refine Ev_aload_n dX10_asks_124 rfl ?_
      refine Ev_aload_n dX10_asks_125 rfl ?_
      refine Ev_getF 11 260 26 flX10_95 rfl dX10_asks_126 ?_
      refine Ev_iload dX10_asks_129 rfl ?_
      obtain ⟨g, h⟩ := h
      refine Ev_iald g dX10_asks_131 ?_
      refine Ev_aload_n dX10_asks_132 rfl ?_
      refine Ev_getF 11 260 27 flX10_98 rfl dX10_asks_133 ?_
      refine Ev_iload dX10_asks_136 rfl ?_
      obtain ⟨g, h⟩ := h
      refine Ev_iald g dX10_asks_138 ?_
      obtain ⟨y3, μ1, hM2, h⟩ := h
      refine Ev_callV [_, _] mlX10_334 rfl rfl (Nat.le_of_ble_eq_true rfl) dX10_asks_139 hM2 ?_
      refine Ev_istore dX10_asks_142 (Nat.le_of_ble_eq_true rfl) (okp_of rfl) ?_
      refine Ev_aload_n dX10_asks_144 rfl ?_
      refine Ev_getI flX10_319 rfl dX10_asks_145 ?_
      refine Ev_if_ne 156 dX10_asks_148 (by decide) (fun q => ?_) (fun q => ?_)
      · have h := h.1 q
        refine Ev_iconst 0 dX10_asks_156 (by decide) ?_
        refine Ev_goto 172 dX10_asks_157 (by decide) ?_
        obtain ⟨rfl, rfl⟩ := h
        exact R_i rfl dX10_asks_172 rfl
      · have h := h.2 q
        refine Ev_iload dX10_asks_151 rfl ?_
        refine Ev_if_ge 160 dX10_asks_153 (by decide) (fun q => ?_) (fun q => ?_)
        · have h := h.1 q
          refine Ev_iload dX10_asks_160 rfl ?_
          refine Ev_iload_n dX10_asks_162 rfl ?_
          refine Ev_icmp_le 170 dX10_asks_163 (by decide) (fun q => ?_) (fun q => ?_)
          · have h := h.1 q
            refine Ev_iload dX10_asks_170 rfl ?_
            obtain ⟨rfl, rfl⟩ := h
            exact R_i rfl dX10_asks_172 rfl
          · have h := h.2 q
            refine Ev_iload_n dX10_asks_166 rfl ?_
            refine Ev_goto 172 dX10_asks_167 (by decide) ?_
            obtain ⟨rfl, rfl⟩ := h
            exact R_i rfl dX10_asks_172 rfl
        · have h := h.2 q
          refine Ev_iconst 0 dX10_asks_156 (by decide) ?_
          refine Ev_goto 172 dX10_asks_157 (by decide) ?_
          obtain ⟨rfl, rfl⟩ := h
          exact R_i rfl dX10_asks_172 rfl
    · have h := h.2 q
      refine Ev_aload_n dX10_asks_65 rfl ?_
      refine Ev_aload_n dX10_asks_66 rfl ?_
      refine Ev_getF 11 260 24 flX10_89 rfl dX10_asks_67 ?_
      refine Ev_iload dX10_asks_70 rfl ?_
      obtain ⟨g, h⟩ := h
      refine Ev_iald g dX10_asks_72 ?_
      refine Ev_aload_n dX10_asks_73 rfl ?_
      refine Ev_getF 11 260 25 flX10_92 rfl dX10_asks_74 ?_
      refine Ev_iload dX10_asks_77 rfl ?_
      obtain ⟨g, h⟩ := h
      refine Ev_iald g dX10_asks_79 ?_
      obtain ⟨y6, μ4, hM5, h⟩ := h
      refine Ev_callV [_, _] mlX10_334 rfl rfl (Nat.le_of_ble_eq_true rfl) dX10_asks_80 hM5 ?_
      refine Ev_istore dX10_asks_83 (Nat.le_of_ble_eq_true rfl) (okp_of rfl) ?_
      refine Ev_aload_n dX10_asks_85 rfl ?_
      refine Ev_aload_n dX10_asks_86 rfl ?_
      refine Ev_getF 11 260 25 flX10_92 rfl dX10_asks_87 ?_
      refine Ev_iload dX10_asks_90 rfl ?_
      obtain ⟨g, h⟩ := h
      refine Ev_iald g dX10_asks_92 ?_
      refine Ev_aload_n dX10_asks_93 rfl ?_
      refine Ev_getF 11 260 26 flX10_95 rfl dX10_asks_94 ?_
      refine Ev_iload dX10_asks_97 rfl ?_
      obtain ⟨g, h⟩ := h
      refine Ev_iald g dX10_asks_99 ?_
      obtain ⟨y9, μ7, hM8, h⟩ := h
      refine Ev_callV [_, _] mlX10_334 rfl rfl (Nat.le_of_ble_eq_true rfl) dX10_asks_100 hM8 ?_
      refine Ev_istore dX10_asks_103 (Nat.le_of_ble_eq_true rfl) (okp_of rfl) ?_
      refine Ev_aload_n dX10_asks_105 rfl ?_
      refine Ev_getI flX10_319 rfl dX10_asks_106 ?_
      refine Ev_if_eq 114 dX10_asks_109 (by decide) (fun q => ?_) (fun q => ?_)
      · have h := h.1 q
        refine Ev_iload dX10_asks_114 rfl ?_
        refine Ev_iload dX10_asks_116 rfl ?_
        refine Ev_icmp_lt 124 dX10_asks_118 (by decide) (fun q => ?_) (fun q => ?_)
        · have h := h.1 q
          refine Ev_aload_n dX10_asks_124 rfl ?_
          refine Ev_aload_n dX10_asks_125 rfl ?_
          refine Ev_getF 11 260 26 flX10_95 rfl dX10_asks_126 ?_
          refine Ev_iload dX10_asks_129 rfl ?_
          obtain ⟨g, h⟩ := h
          refine Ev_iald g dX10_asks_131 ?_
          refine Ev_aload_n dX10_asks_132 rfl ?_
          refine Ev_getF 11 260 27 flX10_98 rfl dX10_asks_133 ?_
          refine Ev_iload dX10_asks_136 rfl ?_
          obtain ⟨g, h⟩ := h
          refine Ev_iald g dX10_asks_138 ?_
          obtain ⟨y12, μ10, hM11, h⟩ := h
          refine Ev_callV [_, _] mlX10_334 rfl rfl (Nat.le_of_ble_eq_true rfl) dX10_asks_139 hM11 ?_
          refine Ev_istore dX10_asks_142 (Nat.le_of_ble_eq_true rfl) (okp_of rfl) ?_
          refine Ev_aload_n dX10_asks_144 rfl ?_
          refine Ev_getI flX10_319 rfl dX10_asks_145 ?_
          refine Ev_if_ne 156 dX10_asks_148 (by decide) (fun q => ?_) (fun q => ?_)
          · have h := h.1 q
            refine Ev_iconst 0 dX10_asks_156 (by decide) ?_
            refine Ev_goto 172 dX10_asks_157 (by decide) ?_
            obtain ⟨rfl, rfl⟩ := h
            exact R_i rfl dX10_asks_172 rfl
          · have h := h.2 q
            refine Ev_iload dX10_asks_151 rfl ?_
            refine Ev_if_ge 160 dX10_asks_153 (by decide) (fun q => ?_) (fun q => ?_)
            · have h := h.1 q
              refine Ev_iload dX10_asks_160 rfl ?_
              refine Ev_iload_n dX10_asks_162 rfl ?_
              refine Ev_icmp_le 170 dX10_asks_163 (by decide) (fun q => ?_) (fun q => ?_)
              · have h := h.1 q
                refine Ev_iload dX10_asks_170 rfl ?_
                obtain ⟨rfl, rfl⟩ := h
                exact R_i rfl dX10_asks_172 rfl
              · have h := h.2 q
                refine Ev_iload_n dX10_asks_166 rfl ?_
                refine Ev_goto 172 dX10_asks_167 (by decide) ?_
                obtain ⟨rfl, rfl⟩ := h
                exact R_i rfl dX10_asks_172 rfl
            · have h := h.2 q
              refine Ev_iconst 0 dX10_asks_156 (by decide) ?_
              refine Ev_goto 172 dX10_asks_157 (by decide) ?_
              obtain ⟨rfl, rfl⟩ := h
              exact R_i rfl dX10_asks_172 rfl
        · have h := h.2 q
          refine Ev_goto 173 dX10_asks_121 (by decide) ?_
          refine Ev_iinc (x5 + 1) dX10_asks_173 rfl rfl (okp_of rfl) ?_
          refine Ev_goto 43 dX10_asks_176 (by decide) ?_
          refine Ev_weak ?_ h
          exact And.intro rfl (And.intro trivial (And.intro trivial (And.intro rfl (And.intro rfl (And.intro rfl (And.intro trivial (And.intro trivial (trivial))))))))
      · have h := h.2 q
        refine Ev_iconst 0 dX10_asks_112 (by decide) ?_
        obtain ⟨rfl, rfl⟩ := h
        exact R_i rfl dX10_asks_113 rfl
set_option maxHeartbeats 4000000 in
set_option maxRecDepth 100000 in
theorem X10_back_ok {d : Nat} {x1 : Int32} {μ μ' : Mem} {x : Int32} (h : ((x1 < 0 → (x = (-1) ∧ μ' = μ)) ∧ (¬ x1 < 0 → ((x1 ≤ (μ.1 0 2) → (∀ μ1 : Mem, μ1 = sI μ 0 2 ((μ.1 0 2) - x1) → (x = μ1.1 0 2 ∧ μ' = μ1))) ∧ (¬ x1 ≤ (μ.1 0 2) → (x = (-1) ∧ μ' = μ)))))) : X10_back d x1 μ x μ' := by
  refine Me_of [some (vr 10 0 0), some (vi x1)] rfl (Nat.le_of_ble_eq_true rfl) (by decide) ?_
  refine Ev_iload_n dX10_back_0 rfl ?_
  refine Ev_if_lt 12 dX10_back_1 (by decide) (fun q => ?_) (fun q => ?_)
  · have h := h.1 q
    refine Ev_iconst (-1) dX10_back_12 (by decide) ?_
    obtain ⟨rfl, rfl⟩ := h
    exact R_i rfl dX10_back_13 rfl
  · have h := h.2 q
    refine Ev_iload_n dX10_back_4 rfl ?_
    refine Ev_aload_n dX10_back_5 rfl ?_
    refine Ev_getI flX10_172 rfl dX10_back_6 ?_
    refine Ev_icmp_le 14 dX10_back_9 (by decide) (fun q => ?_) (fun q => ?_)
    · have h := h.1 q
      refine Ev_aload_n dX10_back_14 rfl ?_
      refine Ev_dup dX10_back_15 (fun _ z => by cases z) ?_
      refine Ev_getI flX10_172 rfl dX10_back_16 ?_
      refine Ev_iload_n dX10_back_19 rfl ?_
      refine Ev_isub dX10_back_20 ?_
      refine Ev_putI .int flX10_172 fpX10_2 rfl rfl rfl dX10_back_21 ?_
      have h := h _ rfl
      refine Ev_aload_n dX10_back_24 rfl ?_
      refine Ev_getI flX10_172 rfl dX10_back_25 ?_
      obtain ⟨rfl, rfl⟩ := h
      exact R_i rfl dX10_back_28 rfl
    · have h := h.2 q
      refine Ev_iconst (-1) dX10_back_12 (by decide) ?_
      obtain ⟨rfl, rfl⟩ := h
      exact R_i rfl dX10_back_13 rfl
set_option maxHeartbeats 4000000 in
set_option maxRecDepth 100000 in
theorem X10_begins_ok {d : Nat}  {μ μ' : Mem} (h : X10_begins_at2 d 0 μ μ') : X10_begins d μ μ' := by
  refine Me_of [some (vr 10 0 0), none] rfl (Nat.le_of_ble_eq_true rfl) (by decide) ?_
  refine Ev_iconst 0 dX10_begins_0 (by decide) ?_
  refine Ev_istore_n dX10_begins_1 (Nat.le_of_ble_eq_true rfl) (okp_of rfl) ?_
  exact h
set_option maxHeartbeats 4000000 in
set_option maxRecDepth 100000 in
theorem X10_begins_at2_ok {d : Nat} {x1 : Int32} {μ μ' : Mem} (h : ((92 ≤ x1 → X10_begins_at23 d 0 μ μ') ∧ (¬ 92 ≤ x1 → vp_in x1 92 ∧ (∀ μ1 : Mem, μ1 = sI μ 34 x1.toNatClampNeg 0 → X10_begins_at2 d (x1 + 1) μ1 μ')))) : X10_begins_at2 d x1 μ μ' := by
  refine Ev_iload_n dX10_begins_2 rfl ?_
  refine Ev_bipush 92 dX10_begins_3 (by decide) ?_
  refine Ev_icmp_ge 21 dX10_begins_5 (by decide) (fun q => ?_) (fun q => ?_)
  · have h := h.1 q
    refine Ev_iconst 0 dX10_begins_21 (by decide) ?_
    refine Ev_istore_n dX10_begins_22 (Nat.le_of_ble_eq_true rfl) (okp_of rfl) ?_
    exact h
  · have h := h.2 q
    refine Ev_aload_n dX10_begins_8 rfl ?_
    refine Ev_getF 11 92 34 flX10_119 rfl dX10_begins_9 ?_
    refine Ev_iload_n dX10_begins_12 rfl ?_
    refine Ev_iconst 0 dX10_begins_13 (by decide) ?_
    obtain ⟨g, h⟩ := h
    refine Ev_iast g dX10_begins_14 ?_
    have h := h _ rfl
    refine Ev_iinc (x1 + 1) dX10_begins_15 rfl rfl (okp_of rfl) ?_
    refine Ev_goto 2 dX10_begins_18 (by decide) ?_
    exact h
set_option maxHeartbeats 4000000 in
set_option maxRecDepth 100000 in
theorem X10_begins_at23_ok {d : Nat} {x1 : Int32} {μ μ' : Mem} (h : vp_in (μ.1 0 18) 2 ∧ (((μ.1 15 ((μ.1 0 18).toNatClampNeg)) ≤ x1 → vp_in (μ.1 0 18) 2 ∧ (∀ μ1 : Mem, μ1 = sI μ 34 88 (μ.1 18 ((μ.1 0 18).toNatClampNeg)) → vp_in (μ1.1 0 18) 2 ∧ (∀ μ2 : Mem, μ2 = sI μ1 0 52 (μ1.1 20 ((μ1.1 0 18).toNatClampNeg)) → μ' = μ2))) ∧ (¬ (μ.1 15 ((μ.1 0 18).toNatClampNeg)) ≤ x1 → vp_in ((4 * (μ.1 0 18)) + x1) 8 ∧ vp_in (48 + x1) 92 ∧ (∀ μ3 : Mem, μ3 = sI μ 34 ((48 + x1).toNatClampNeg) (μ.1 17 (((4 * (μ.1 0 18)) + x1).toNatClampNeg)) → X10_begins_at23 d (x1 + 1) μ3 μ')))) : X10_begins_at23 d x1 μ μ' := by
  refine Ev_iload_n dX10_begins_23 rfl ?_
  refine Ev_aload_n dX10_begins_24 rfl ?_
  refine Ev_getF 11 2 15 flX10_61 rfl dX10_begins_25 ?_
  refine Ev_aload_n dX10_begins_28 rfl ?_
  refine Ev_getI flX10_239 rfl dX10_begins_29 ?_
  obtain ⟨g, h⟩ := h
  refine Ev_iald g dX10_begins_32 ?_
  refine Ev_icmp_ge 64 dX10_begins_33 (by decide) (fun q => ?_) (fun q => ?_)
  · have h := h.1 q
    refine Ev_aload_n dX10_begins_64 rfl ?_
    refine Ev_getF 11 92 34 flX10_119 rfl dX10_begins_65 ?_
    refine Ev_bipush 88 dX10_begins_68 (by decide) ?_
    refine Ev_aload_n dX10_begins_70 rfl ?_
    refine Ev_getF 11 2 18 flX10_70 rfl dX10_begins_71 ?_
    refine Ev_aload_n dX10_begins_74 rfl ?_
    refine Ev_getI flX10_239 rfl dX10_begins_75 ?_
    obtain ⟨g, h⟩ := h
    refine Ev_iald g dX10_begins_78 ?_
    refine Ev_iast (n := 92) (vp_lit (by decide)) dX10_begins_79 ?_
    have h := h _ rfl
    refine Ev_aload_n dX10_begins_80 rfl ?_
    refine Ev_aload_n dX10_begins_81 rfl ?_
    refine Ev_getF 11 2 20 flX10_76 rfl dX10_begins_82 ?_
    refine Ev_aload_n dX10_begins_85 rfl ?_
    refine Ev_getI flX10_239 rfl dX10_begins_86 ?_
    obtain ⟨g, h⟩ := h
    refine Ev_iald g dX10_begins_89 ?_
    refine Ev_putI .int flX10_327 fpX10_52 rfl rfl rfl dX10_begins_90 ?_
    have h := h _ rfl
    subst h
    exact R_v rfl dX10_begins_93
  · have h := h.2 q
    refine Ev_aload_n dX10_begins_36 rfl ?_
    refine Ev_getF 11 92 34 flX10_119 rfl dX10_begins_37 ?_
    refine Ev_bipush 48 dX10_begins_40 (by decide) ?_
    refine Ev_iload_n dX10_begins_42 rfl ?_
    refine Ev_iadd dX10_begins_43 ?_
    refine Ev_aload_n dX10_begins_44 rfl ?_
    refine Ev_getF 11 8 17 flX10_67 rfl dX10_begins_45 ?_
    refine Ev_iconst 4 dX10_begins_48 (by decide) ?_
    refine Ev_aload_n dX10_begins_49 rfl ?_
    refine Ev_getI flX10_239 rfl dX10_begins_50 ?_
    refine Ev_imul dX10_begins_53 ?_
    refine Ev_iload_n dX10_begins_54 rfl ?_
    refine Ev_iadd dX10_begins_55 ?_
    obtain ⟨g, h⟩ := h
    refine Ev_iald g dX10_begins_56 ?_
    obtain ⟨g, h⟩ := h
    refine Ev_iast g dX10_begins_57 ?_
    have h := h _ rfl
    refine Ev_iinc (x1 + 1) dX10_begins_58 rfl rfl (okp_of rfl) ?_
    refine Ev_goto 23 dX10_begins_61 (by decide) ?_
    exact h
set_option maxHeartbeats 4000000 in
set_option maxRecDepth 100000 in
theorem X10_bounded_ok {d : Nat} {x1 : Int32} {x2 : Int32} {μ μ' : Mem} {x : Int32} (h : ((0 < (μ.1 0 13) → (∃ (μ1 : Mem), X10_fail d 1 μ μ1 ∧ (x = x1 ∧ μ' = μ1))) ∧ (¬ 0 < (μ.1 0 13) → (∃ (y5 : Int32) (μ3 : Mem), X10_is d 2 μ y5 μ3 ∧ ((y5 ≠ 0 → vp_in (μ3.1 0 11) 403 ∧ (((μ3.1 5 ((μ3.1 0 11).toNatClampNeg)) < x1 → (∃ (μ6 : Mem), X10_wrong d 5 (μ3.1 0 11) μ3 μ6 ∧ (∃ (μ8 : Mem), X10_goesOn d μ6 μ8 ∧ (x = μ3.1 5 ((μ3.1 0 11).toNatClampNeg) ∧ μ' = μ8)))) ∧ (¬ (μ3.1 5 ((μ3.1 0 11).toNatClampNeg)) < x1 → (((μ3.1 5 ((μ3.1 0 11).toNatClampNeg)) ≤ x2 → (∃ (μ10 : Mem), X10_goesOn d μ3 μ10 ∧ (x = μ3.1 5 ((μ3.1 0 11).toNatClampNeg) ∧ μ' = μ10))) ∧ (¬ (μ3.1 5 ((μ3.1 0 11).toNatClampNeg)) ≤ x2 → (∃ (μ12 : Mem), X10_wrong d 5 (μ3.1 0 11) μ3 μ12 ∧ (∃ (μ14 : Mem), X10_goesOn d μ12 μ14 ∧ (x = μ3.1 5 ((μ3.1 0 11).toNatClampNeg) ∧ μ' = μ14)))))))) ∧ (y5 = 0 → (∃ (μ16 : Mem), X10_fail d 1 μ3 μ16 ∧ (x = x1 ∧ μ' = μ16)))))))) : X10_bounded (d + 1) x1 x2 μ x μ' := by
  refine Me_of [some (vr 10 0 0), some (vi x1), some (vi x2), none] rfl (Nat.le_of_ble_eq_true rfl) (by decide) ?_
  refine Ev_aload_n dX10_bounded_0 rfl ?_
  refine Ev_getI flX10_209 rfl dX10_bounded_1 ?_
  refine Ev_if_gt 15 dX10_bounded_4 (by decide) (fun q => ?_) (fun q => ?_)
  · have h := h.1 q
    refine Ev_aload_n dX10_bounded_15 rfl ?_
    refine Ev_iconst 1 dX10_bounded_16 (by decide) ?_
    obtain ⟨μ1, hM2, h⟩ := h
    refine Ev_callV [_] mlX10_224 rfl rfl (Nat.le_of_ble_eq_true rfl) dX10_bounded_17 hM2 ?_
    refine Ev_iload_n dX10_bounded_20 rfl ?_
    obtain ⟨rfl, rfl⟩ := h
    exact R_i rfl dX10_bounded_21 rfl
  · have h := h.2 q
    refine Ev_aload_n dX10_bounded_7 rfl ?_
    refine Ev_iconst 2 dX10_bounded_8 (by decide) ?_
    obtain ⟨y5, μ3, hM4, h⟩ := h
    refine Ev_callV [_] mlX10_227 rfl rfl (Nat.le_of_ble_eq_true rfl) dX10_bounded_9 hM4 ?_
    refine Ev_if_ne 22 dX10_bounded_12 (by decide) (fun q => ?_) (fun q => ?_)
    · have h := h.1 q
      refine Ev_aload_n dX10_bounded_22 rfl ?_
      refine Ev_getF 11 403 5 flX10_27 rfl dX10_bounded_23 ?_
      refine Ev_aload_n dX10_bounded_26 rfl ?_
      refine Ev_getI flX10_212 rfl dX10_bounded_27 ?_
      obtain ⟨g, h⟩ := h
      refine Ev_iald g dX10_bounded_30 ?_
      refine Ev_istore_n dX10_bounded_31 (Nat.le_of_ble_eq_true rfl) (okp_of rfl) ?_
      refine Ev_iload_n dX10_bounded_32 rfl ?_
      refine Ev_iload_n dX10_bounded_33 rfl ?_
      refine Ev_icmp_lt 42 dX10_bounded_34 (by decide) (fun q => ?_) (fun q => ?_)
      · have h := h.1 q
        refine Ev_aload_n dX10_bounded_42 rfl ?_
        refine Ev_iconst 5 dX10_bounded_43 (by decide) ?_
        refine Ev_aload_n dX10_bounded_44 rfl ?_
        refine Ev_getI flX10_212 rfl dX10_bounded_45 ?_
        obtain ⟨μ6, hM7, h⟩ := h
        refine Ev_callV [_, _] mlX10_261 rfl rfl (Nat.le_of_ble_eq_true rfl) dX10_bounded_48 hM7 ?_
        refine Ev_aload_n dX10_bounded_51 rfl ?_
        obtain ⟨μ8, hM9, h⟩ := h
        refine Ev_callV [] mlX10_230 rfl rfl (Nat.le_of_ble_eq_true rfl) dX10_bounded_52 hM9 ?_
        refine Ev_iload_n dX10_bounded_55 rfl ?_
        obtain ⟨rfl, rfl⟩ := h
        exact R_i rfl dX10_bounded_56 rfl
      · have h := h.2 q
        refine Ev_iload_n dX10_bounded_37 rfl ?_
        refine Ev_iload_n dX10_bounded_38 rfl ?_
        refine Ev_icmp_le 51 dX10_bounded_39 (by decide) (fun q => ?_) (fun q => ?_)
        · have h := h.1 q
          refine Ev_aload_n dX10_bounded_51 rfl ?_
          obtain ⟨μ10, hM11, h⟩ := h
          refine Ev_callV [] mlX10_230 rfl rfl (Nat.le_of_ble_eq_true rfl) dX10_bounded_52 hM11 ?_
          refine Ev_iload_n dX10_bounded_55 rfl ?_
          obtain ⟨rfl, rfl⟩ := h
          exact R_i rfl dX10_bounded_56 rfl
        · have h := h.2 q
          refine Ev_aload_n dX10_bounded_42 rfl ?_
          refine Ev_iconst 5 dX10_bounded_43 (by decide) ?_
          refine Ev_aload_n dX10_bounded_44 rfl ?_
          refine Ev_getI flX10_212 rfl dX10_bounded_45 ?_
          obtain ⟨μ12, hM13, h⟩ := h
          refine Ev_callV [_, _] mlX10_261 rfl rfl (Nat.le_of_ble_eq_true rfl) dX10_bounded_48 hM13 ?_
          refine Ev_aload_n dX10_bounded_51 rfl ?_
          obtain ⟨μ14, hM15, h⟩ := h
          refine Ev_callV [] mlX10_230 rfl rfl (Nat.le_of_ble_eq_true rfl) dX10_bounded_52 hM15 ?_
          refine Ev_iload_n dX10_bounded_55 rfl ?_
          obtain ⟨rfl, rfl⟩ := h
          exact R_i rfl dX10_bounded_56 rfl
    · have h := h.2 q
      refine Ev_aload_n dX10_bounded_15 rfl ?_
      refine Ev_iconst 1 dX10_bounded_16 (by decide) ?_
      obtain ⟨μ16, hM17, h⟩ := h
      refine Ev_callV [_] mlX10_224 rfl rfl (Nat.le_of_ble_eq_true rfl) dX10_bounded_17 hM17 ?_
      refine Ev_iload_n dX10_bounded_20 rfl ?_
      obtain ⟨rfl, rfl⟩ := h
      exact R_i rfl dX10_bounded_21 rfl
set_option maxHeartbeats 4000000 in
set_option maxRecDepth 100000 in
theorem X10_byteAt_ok {d : Nat} {x1 : Int32} {μ μ' : Mem} {x : Int32} (h : (((μ.1 0 4) ≤ x1 → (x = 0 ∧ μ' = μ)) ∧ (¬ (μ.1 0 4) ≤ x1 → vp_in x1 2000 ∧ (x = (μ.1 2 x1.toNatClampNeg) &&& 255 ∧ μ' = μ)))) : X10_byteAt d x1 μ x μ' := by
  refine Me_of [some (vr 10 0 0), some (vi x1)] rfl (Nat.le_of_ble_eq_true rfl) (by decide) ?_
  refine Ev_iload_n dX10_byteAt_0 rfl ?_
  refine Ev_aload_n dX10_byteAt_1 rfl ?_
  refine Ev_getI flX10_178 rfl dX10_byteAt_2 ?_
  refine Ev_icmp_ge 21 dX10_byteAt_5 (by decide) (fun q => ?_) (fun q => ?_)
  · have h := h.1 q
    refine Ev_iconst 0 dX10_byteAt_21 (by decide) ?_
    obtain ⟨rfl, rfl⟩ := h
    exact R_i rfl dX10_byteAt_22 rfl
  · have h := h.2 q
    refine Ev_aload_n dX10_byteAt_8 rfl ?_
    refine Ev_getF 12 2000 2 flX10_17 rfl dX10_byteAt_9 ?_
    refine Ev_iload_n dX10_byteAt_12 rfl ?_
    obtain ⟨g, h⟩ := h
    refine Ev_bald g dX10_byteAt_13 ?_
    refine Ev_sipush 255 dX10_byteAt_14 (by decide) ?_
    refine Ev_iand dX10_byteAt_17 ?_
    refine Ev_goto 22 dX10_byteAt_18 (by decide) ?_
    obtain ⟨rfl, rfl⟩ := h
    exact R_i rfl dX10_byteAt_22 rfl
set_option maxHeartbeats 4000000 in
set_option maxRecDepth 100000 in
theorem X10_cell_ok {d : Nat} {x1 : Int32} {x2 : Int32} {x3 : Int32} {μ μ' : Mem} {x : Int32} (h : (∃ (y3 : Int32) (μ1 : Mem), X10_isCell d x1 x2 μ y3 μ1 ∧ ((y3 ≠ 0 → (∃ (μ4 : Mem), X10_copies d μ1 μ4 ∧ ((x3 = 0 → (∃ (y8 : Int32) (μ6 : Mem), X10_fieldAt d ((8 * x2) + x1) μ4 y8 μ6 ∧ (x = y8 ∧ μ' = μ6))) ∧ (x3 = 1 → vp_in ((8 * x2) + x1) 92 ∧ (x = μ4.1 34 (((8 * x2) + x1).toNatClampNeg) ∧ μ' = μ4)) ∧ (x3 = 2 → (∃ (y11 : Int32) (μ9 : Mem), X10_isLacking d ((8 * x2) + x1) μ4 y11 μ9 ∧ ((y11 = 0 → (x = 0 ∧ μ' = μ9)) ∧ (¬ y11 = 0 → (x = 1 ∧ μ' = μ9))))) ∧ (x3 = 3 → (∃ (y14 : Int32) (μ12 : Mem), X10_isFlooded d ((8 * x2) + x1) μ4 y14 μ12 ∧ ((y14 = 0 → (x = 0 ∧ μ' = μ12)) ∧ (¬ y14 = 0 → (x = 1 ∧ μ' = μ12))))) ∧ (((x3).toInt < 0 ∨ 3 < (x3).toInt) → (x = (-1) ∧ μ' = μ4))))) ∧ (y3 = 0 → (x = (-1) ∧ μ' = μ1))))) : X10_cell (d + 1) x1 x2 x3 μ x μ' := by
  refine Me_of [some (vr 10 0 0), some (vi x1), some (vi x2), some (vi x3), none] rfl (Nat.le_of_ble_eq_true rfl) (by decide) ?_
  refine Ev_aload_n dX10_cell_0 rfl ?_
  refine Ev_iload_n dX10_cell_1 rfl ?_
  refine Ev_iload_n dX10_cell_2 rfl ?_
  obtain ⟨y3, μ1, hM2, h⟩ := h
  refine Ev_callV [_, _] mlX10_343 rfl rfl (Nat.le_of_ble_eq_true rfl) dX10_cell_3 hM2 ?_
  refine Ev_if_ne 11 dX10_cell_6 (by decide) (fun q => ?_) (fun q => ?_)
  · have h := h.1 q
    refine Ev_aload_n dX10_cell_11 rfl ?_
    obtain ⟨μ4, hM5, h⟩ := h
    refine Ev_callV [] mlX10_381 rfl rfl (Nat.le_of_ble_eq_true rfl) dX10_cell_12 hM5 ?_
    refine Ev_bipush 8 dX10_cell_15 (by decide) ?_
    refine Ev_iload_n dX10_cell_17 rfl ?_
    refine Ev_imul dX10_cell_18 ?_
    refine Ev_iload_n dX10_cell_19 rfl ?_
    refine Ev_iadd dX10_cell_20 ?_
    refine Ev_istore dX10_cell_21 (Nat.le_of_ble_eq_true rfl) (okp_of rfl) ?_
    refine Ev_iload_n dX10_cell_23 rfl ?_
    refine Ev_tab 101 dX10_cell_24 (by decide) (fun k hk e => ?_) (fun q => ?_)
    · rcases (show k = 0 ∨ k = 1 ∨ k = 2 ∨ k = 3 by omega) with rfl | rfl | rfl | rfl
      · have h := h.1 (Int32.toInt_inj.mp (e.trans (by decide)))
        refine ⟨_, 56, rfl, by decide, ?_⟩
        refine Ev_aload_n dX10_cell_56 rfl ?_
        refine Ev_iload dX10_cell_57 rfl ?_
        obtain ⟨y8, μ6, hM7, h⟩ := h
        refine Ev_callV [_] mlX10_347 rfl rfl (Nat.le_of_ble_eq_true rfl) dX10_cell_59 hM7 ?_
        obtain ⟨rfl, rfl⟩ := h
        exact R_i rfl dX10_cell_62 rfl
      · have h := h.2.1 (Int32.toInt_inj.mp (e.trans (by decide)))
        refine ⟨_, 63, rfl, by decide, ?_⟩
        refine Ev_aload_n dX10_cell_63 rfl ?_
        refine Ev_getF 11 92 34 flX10_119 rfl dX10_cell_64 ?_
        refine Ev_iload dX10_cell_67 rfl ?_
        obtain ⟨g, h⟩ := h
        refine Ev_iald g dX10_cell_69 ?_
        obtain ⟨rfl, rfl⟩ := h
        exact R_i rfl dX10_cell_70 rfl
      · have h := h.2.2.1 (Int32.toInt_inj.mp (e.trans (by decide)))
        refine ⟨_, 71, rfl, by decide, ?_⟩
        refine Ev_aload_n dX10_cell_71 rfl ?_
        refine Ev_iload dX10_cell_72 rfl ?_
        obtain ⟨y11, μ9, hM10, h⟩ := h
        refine Ev_callV [_] mlX10_369 rfl rfl (Nat.le_of_ble_eq_true rfl) dX10_cell_74 hM10 ?_
        refine Ev_if_eq 84 dX10_cell_77 (by decide) (fun q => ?_) (fun q => ?_)
        · have h := h.1 q
          refine Ev_iconst 0 dX10_cell_84 (by decide) ?_
          obtain ⟨rfl, rfl⟩ := h
          exact R_i rfl dX10_cell_85 rfl
        · have h := h.2 q
          refine Ev_iconst 1 dX10_cell_80 (by decide) ?_
          refine Ev_goto 85 dX10_cell_81 (by decide) ?_
          obtain ⟨rfl, rfl⟩ := h
          exact R_i rfl dX10_cell_85 rfl
      · have h := h.2.2.2.1 (Int32.toInt_inj.mp (e.trans (by decide)))
        refine ⟨_, 86, rfl, by decide, ?_⟩
        refine Ev_aload_n dX10_cell_86 rfl ?_
        refine Ev_iload dX10_cell_87 rfl ?_
        obtain ⟨y14, μ12, hM13, h⟩ := h
        refine Ev_callV [_] mlX10_372 rfl rfl (Nat.le_of_ble_eq_true rfl) dX10_cell_89 hM13 ?_
        refine Ev_if_eq 99 dX10_cell_92 (by decide) (fun q => ?_) (fun q => ?_)
        · have h := h.1 q
          refine Ev_iconst 0 dX10_cell_99 (by decide) ?_
          obtain ⟨rfl, rfl⟩ := h
          exact R_i rfl dX10_cell_100 rfl
        · have h := h.2 q
          refine Ev_iconst 1 dX10_cell_95 (by decide) ?_
          refine Ev_goto 100 dX10_cell_96 (by decide) ?_
          obtain ⟨rfl, rfl⟩ := h
          exact R_i rfl dX10_cell_100 rfl
    · have h := h.2.2.2.2 q
      refine Ev_iconst (-1) dX10_cell_101 (by decide) ?_
      obtain ⟨rfl, rfl⟩ := h
      exact R_i rfl dX10_cell_102 rfl
  · have h := h.2 q
    refine Ev_iconst (-1) dX10_cell_9 (by decide) ?_
    obtain ⟨rfl, rfl⟩ := h
    exact R_i rfl dX10_cell_10 rfl
set_option maxHeartbeats 4000000 in
set_option maxRecDepth 100000 in
theorem X10_cellsOf_ok {d : Nat} {x1 : Int32} {μ μ' : Mem} {x : Int32} (h : X10_cellsOf_at4 d x1 0 0 μ x μ') : X10_cellsOf (d + 1) x1 μ x μ' := by
  refine Me_of [some (vr 10 0 0), some (vi x1), none, none] rfl (Nat.le_of_ble_eq_true rfl) (by decide) ?_
  refine Ev_iconst 0 dX10_cellsOf_0 (by decide) ?_
  refine Ev_istore_n dX10_cellsOf_1 (Nat.le_of_ble_eq_true rfl) (okp_of rfl) ?_
  refine Ev_iconst 0 dX10_cellsOf_2 (by decide) ?_
  refine Ev_istore_n dX10_cellsOf_3 (Nat.le_of_ble_eq_true rfl) (okp_of rfl) ?_
  exact h
set_option maxHeartbeats 4000000 in
set_option maxRecDepth 100000 in
theorem X10_cellsOf_at4_ok {d : Nat} {x1 : Int32} {x2 : Int32} {x3 : Int32} {μ μ' : Mem} {x : Int32} (h : ((48 ≤ x3 → (x = x2 ∧ μ' = μ)) ∧ (¬ 48 ≤ x3 → (∃ (y3 : Int32) (μ1 : Mem), X10_isLand d x3 μ y3 μ1 ∧ ((y3 = 0 → X10_cellsOf_at4 d x1 x2 (x3 + 1) μ1 x μ') ∧ (¬ y3 = 0 → (∃ (y6 : Int32) (μ4 : Mem), X10_fieldAt d x3 μ1 y6 μ4 ∧ ((y6 ≠ x1 → X10_cellsOf_at4 d x1 x2 (x3 + 1) μ4 x μ') ∧ (y6 = x1 → X10_cellsOf_at4 d x1 (x2 + 1) (x3 + 1) μ4 x μ'))))))))) : X10_cellsOf_at4 d x1 x2 x3 μ x μ' := by
  refine Ev_iload_n dX10_cellsOf_4 rfl ?_
  refine Ev_bipush 48 dX10_cellsOf_5 (by decide) ?_
  refine Ev_icmp_ge 36 dX10_cellsOf_7 (by decide) (fun q => ?_) (fun q => ?_)
  · have h := h.1 q
    refine Ev_iload_n dX10_cellsOf_36 rfl ?_
    obtain ⟨rfl, rfl⟩ := h
    exact R_i rfl dX10_cellsOf_37 rfl
  · have h := h.2 q
    refine Ev_aload_n dX10_cellsOf_10 rfl ?_
    refine Ev_iload_n dX10_cellsOf_11 rfl ?_
    obtain ⟨y3, μ1, hM2, h⟩ := h
    refine Ev_callV [_] mlX10_366 rfl rfl (Nat.le_of_ble_eq_true rfl) dX10_cellsOf_12 hM2 ?_
    refine Ev_if_eq 30 dX10_cellsOf_15 (by decide) (fun q => ?_) (fun q => ?_)
    · have h := h.1 q
      refine Ev_iinc (x3 + 1) dX10_cellsOf_30 rfl rfl (okp_of rfl) ?_
      refine Ev_goto 4 dX10_cellsOf_33 (by decide) ?_
      exact h
    · have h := h.2 q
      refine Ev_aload_n dX10_cellsOf_18 rfl ?_
      refine Ev_iload_n dX10_cellsOf_19 rfl ?_
      obtain ⟨y6, μ4, hM5, h⟩ := h
      refine Ev_callV [_] mlX10_347 rfl rfl (Nat.le_of_ble_eq_true rfl) dX10_cellsOf_20 hM5 ?_
      refine Ev_iload_n dX10_cellsOf_23 rfl ?_
      refine Ev_icmp_ne 30 dX10_cellsOf_24 (by decide) (fun q => ?_) (fun q => ?_)
      · have h := h.1 q
        refine Ev_iinc (x3 + 1) dX10_cellsOf_30 rfl rfl (okp_of rfl) ?_
        refine Ev_goto 4 dX10_cellsOf_33 (by decide) ?_
        exact h
      · have h := h.2 q
        refine Ev_iinc (x2 + 1) dX10_cellsOf_27 rfl rfl (okp_of rfl) ?_
        refine Ev_iinc (x3 + 1) dX10_cellsOf_30 rfl rfl (okp_of rfl) ?_
        refine Ev_goto 4 dX10_cellsOf_33 (by decide) ?_
        exact h
set_option maxHeartbeats 4000000 in
set_option maxRecDepth 100000 in
theorem X10_comes_ok {d : Nat} {x1 : Int32} {x2 : Int32} {x3 : Int32} {μ μ' : Mem} {x : Int32} (h : (∃ (y3 : Int32) (μ1 : Mem), X10_isLoom d x1 μ y3 μ1 ∧ ((y3 = 0 → (x = (-1) ∧ μ' = μ1)) ∧ (¬ y3 = 0 → vp_in ((4 * (μ1.1 0 18)) + x1) 8 ∧ (∃ (y6 : Int32) (μ4 : Mem), X10_in d x2 1 (μ1.1 16 (((4 * (μ1.1 0 18)) + x1).toNatClampNeg)) μ1 y6 μ4 ∧ ((y6 = 0 → (x = (-1) ∧ μ' = μ4)) ∧ (¬ y6 = 0 → (∃ (y9 : Int32) (μ7 : Mem), X10_in d x3 0 ((1 <<< (x2 &&& 31)) - 1) μ4 y9 μ7 ∧ ((y9 ≠ 0 → X10_comes_at47 d x1 x2 x3 0 μ7 x μ') ∧ (y9 = 0 → (x = (-1) ∧ μ' = μ7))))))))))) : X10_comes (d + 1) x1 x2 x3 μ x μ' := by
  refine Me_of [some (vr 10 0 0), some (vi x1), some (vi x2), some (vi x3), none, none, none] rfl (Nat.le_of_ble_eq_true rfl) (by decide) ?_
  refine Ev_aload_n dX10_comes_0 rfl ?_
  refine Ev_iload_n dX10_comes_1 rfl ?_
  obtain ⟨y3, μ1, hM2, h⟩ := h
  refine Ev_callV [_] mlX10_393 rfl rfl (Nat.le_of_ble_eq_true rfl) dX10_comes_2 hM2 ?_
  refine Ev_if_eq 42 dX10_comes_5 (by decide) (fun q => ?_) (fun q => ?_)
  · have h := h.1 q
    refine Ev_iconst (-1) dX10_comes_42 (by decide) ?_
    obtain ⟨rfl, rfl⟩ := h
    exact R_i rfl dX10_comes_43 rfl
  · have h := h.2 q
    refine Ev_iload_n dX10_comes_8 rfl ?_
    refine Ev_iconst 1 dX10_comes_9 (by decide) ?_
    refine Ev_aload_n dX10_comes_10 rfl ?_
    refine Ev_getF 11 8 16 flX10_64 rfl dX10_comes_11 ?_
    refine Ev_iconst 4 dX10_comes_14 (by decide) ?_
    refine Ev_aload_n dX10_comes_15 rfl ?_
    refine Ev_getI flX10_239 rfl dX10_comes_16 ?_
    refine Ev_imul dX10_comes_19 ?_
    refine Ev_iload_n dX10_comes_20 rfl ?_
    refine Ev_iadd dX10_comes_21 ?_
    obtain ⟨g, h⟩ := h
    refine Ev_iald g dX10_comes_22 ?_
    obtain ⟨y6, μ4, hM5, h⟩ := h
    refine Ev_callS [_, _, _] mlX10_323 rfl rfl (Nat.le_of_ble_eq_true rfl) dX10_comes_23 hM5 ?_
    refine Ev_if_eq 42 dX10_comes_26 (by decide) (fun q => ?_) (fun q => ?_)
    · have h := h.1 q
      refine Ev_iconst (-1) dX10_comes_42 (by decide) ?_
      obtain ⟨rfl, rfl⟩ := h
      exact R_i rfl dX10_comes_43 rfl
    · have h := h.2 q
      refine Ev_iload_n dX10_comes_29 rfl ?_
      refine Ev_iconst 0 dX10_comes_30 (by decide) ?_
      refine Ev_iconst 1 dX10_comes_31 (by decide) ?_
      refine Ev_iload_n dX10_comes_32 rfl ?_
      refine Ev_ishl dX10_comes_33 ?_
      refine Ev_iconst 1 dX10_comes_34 (by decide) ?_
      refine Ev_isub dX10_comes_35 ?_
      obtain ⟨y9, μ7, hM8, h⟩ := h
      refine Ev_callS [_, _, _] mlX10_323 rfl rfl (Nat.le_of_ble_eq_true rfl) dX10_comes_36 hM8 ?_
      refine Ev_if_ne 44 dX10_comes_39 (by decide) (fun q => ?_) (fun q => ?_)
      · have h := h.1 q
        refine Ev_iconst 0 dX10_comes_44 (by decide) ?_
        refine Ev_istore dX10_comes_45 (Nat.le_of_ble_eq_true rfl) (okp_of rfl) ?_
        exact h
      · have h := h.2 q
        refine Ev_iconst (-1) dX10_comes_42 (by decide) ?_
        obtain ⟨rfl, rfl⟩ := h
        exact R_i rfl dX10_comes_43 rfl
set_option maxHeartbeats 4000000 in
set_option maxRecDepth 100000 in
theorem X10_comes_at47_ok {d : Nat} {x1 : Int32} {x2 : Int32} {x3 : Int32} {x4 : Int32} {μ μ' : Mem} {x : Int32} (h : ((200 < x4 → (x = (-2) ∧ μ' = μ)) ∧ (¬ 200 < x4 → X10_comes_at61 d x1 x2 x3 x4 0 0 μ x μ'))) : X10_comes_at47 d x1 x2 x3 x4 μ x μ' := by
  refine Ev_iload dX10_comes_47 rfl ?_
  refine Ev_sipush 200 dX10_comes_49 (by decide) ?_
  refine Ev_icmp_gt 119 dX10_comes_52 (by decide) (fun q => ?_) (fun q => ?_)
  · have h := h.1 q
    refine Ev_bipush (-2) dX10_comes_119 (by decide) ?_
    obtain ⟨rfl, rfl⟩ := h
    exact R_i rfl dX10_comes_121 rfl
  · have h := h.2 q
    refine Ev_iconst 0 dX10_comes_55 (by decide) ?_
    refine Ev_istore dX10_comes_56 (Nat.le_of_ble_eq_true rfl) (okp_of rfl) ?_
    refine Ev_iconst 0 dX10_comes_58 (by decide) ?_
    refine Ev_istore dX10_comes_59 (Nat.le_of_ble_eq_true rfl) (okp_of rfl) ?_
    exact h
set_option maxHeartbeats 4000000 in
set_option maxRecDepth 100000 in
theorem X10_comes_at61_ok {d : Nat} {x1 : Int32} {x2 : Int32} {x3 : Int32} {x4 : Int32} {x5 : Int32} {x6 : Int32} {μ μ' : Mem} {x : Int32} (h : ((x2 ≤ x6 → ((x5 ≠ x3 → X10_comes_at47 d x1 x2 x3 (x4 + 1) μ x μ') ∧ (x5 = x3 → (x = x4 ∧ μ' = μ)))) ∧ (¬ x2 ≤ x6 → vp_in (48 + x1) 92 ∧ (∃ (y3 : Int32) (μ1 : Mem), X10_threadOf d x1 x6 ((μ.1 33 ((48 + x1).toNatClampNeg)) + x4) μ y3 μ1 ∧ ((y3 ≤ 0 → X10_comes_at61 d x1 x2 x3 x4 x5 (x6 + 1) μ1 x μ') ∧ (¬ y3 ≤ 0 → X10_comes_at61 d x1 x2 x3 x4 (x5 ||| (1 <<< (x6 &&& 31))) (x6 + 1) μ1 x μ')))))) : X10_comes_at61 d x1 x2 x3 x4 x5 x6 μ x μ' := by
  refine Ev_iload dX10_comes_61 rfl ?_
  refine Ev_iload_n dX10_comes_63 rfl ?_
  refine Ev_icmp_ge 104 dX10_comes_64 (by decide) (fun q => ?_) (fun q => ?_)
  · have h := h.1 q
    refine Ev_iload dX10_comes_104 rfl ?_
    refine Ev_iload_n dX10_comes_106 rfl ?_
    refine Ev_icmp_ne 113 dX10_comes_107 (by decide) (fun q => ?_) (fun q => ?_)
    · have h := h.1 q
      refine Ev_iinc (x4 + 1) dX10_comes_113 rfl rfl (okp_of rfl) ?_
      refine Ev_goto 47 dX10_comes_116 (by decide) ?_
      refine Ev_weak ?_ h
      exact And.intro rfl (And.intro rfl (And.intro rfl (And.intro rfl (And.intro rfl (And.intro trivial (And.intro trivial (trivial)))))))
    · have h := h.2 q
      refine Ev_iload dX10_comes_110 rfl ?_
      obtain ⟨rfl, rfl⟩ := h
      exact R_i rfl dX10_comes_112 rfl
  · have h := h.2 q
    refine Ev_aload_n dX10_comes_67 rfl ?_
    refine Ev_iload_n dX10_comes_68 rfl ?_
    refine Ev_iload dX10_comes_69 rfl ?_
    refine Ev_aload_n dX10_comes_71 rfl ?_
    refine Ev_getF 11 92 33 flX10_116 rfl dX10_comes_72 ?_
    refine Ev_bipush 48 dX10_comes_75 (by decide) ?_
    refine Ev_iload_n dX10_comes_77 rfl ?_
    refine Ev_iadd dX10_comes_78 ?_
    obtain ⟨g, h⟩ := h
    refine Ev_iald g dX10_comes_79 ?_
    refine Ev_iload dX10_comes_80 rfl ?_
    refine Ev_iadd dX10_comes_82 ?_
    obtain ⟨y3, μ1, hM2, h⟩ := h
    refine Ev_callV [_, _, _] mlX10_356 rfl rfl (Nat.le_of_ble_eq_true rfl) dX10_comes_83 hM2 ?_
    refine Ev_if_le 98 dX10_comes_86 (by decide) (fun q => ?_) (fun q => ?_)
    · have h := h.1 q
      refine Ev_iinc (x6 + 1) dX10_comes_98 rfl rfl (okp_of rfl) ?_
      refine Ev_goto 61 dX10_comes_101 (by decide) ?_
      exact h
    · have h := h.2 q
      refine Ev_iload dX10_comes_89 rfl ?_
      refine Ev_iconst 1 dX10_comes_91 (by decide) ?_
      refine Ev_iload dX10_comes_92 rfl ?_
      refine Ev_ishl dX10_comes_94 ?_
      refine Ev_ior dX10_comes_95 ?_
      refine Ev_istore dX10_comes_96 (Nat.le_of_ble_eq_true rfl) (okp_of rfl) ?_
      refine Ev_iinc (x6 + 1) dX10_comes_98 rfl rfl (okp_of rfl) ?_
      refine Ev_goto 61 dX10_comes_101 (by decide) ?_
      exact h
set_option maxHeartbeats 4000000 in
set_option maxRecDepth 100000 in
theorem X10_comesOut_ok {d : Nat} {x1 : Int32} {μ μ' : Mem} (h : X10_comesOut_at0 d x1 μ μ') : X10_comesOut (d + 1) x1 μ μ' := by
  refine Me_of [some (vr 10 0 0), some (vi x1), none] rfl (Nat.le_of_ble_eq_true rfl) (by decide) ?_
  exact h
set_option maxHeartbeats 4000000 in
set_option maxRecDepth 100000 in
theorem X10_comesOut_at0_ok {d : Nat} {x1 : Int32} {μ μ' : Mem} (h : (((μ.1 0 46) ≤ 0 → μ' = μ) ∧ (¬ (μ.1 0 46) ≤ 0 → vp_in ((μ.1 0 46) - 1) 64 ∧ (((μ.1 30 (((μ.1 0 46) - 1).toNatClampNeg)) = 6 → μ' = μ) ∧ (¬ (μ.1 30 (((μ.1 0 46) - 1).toNatClampNeg)) = 6 → ((x1 = 0 → (∀ μ1 : Mem, μ1 = sI μ 0 46 ((μ.1 0 46) - 1) → (((μ.1 30 (((μ.1 0 46) - 1).toNatClampNeg)) ≠ 8 → (((μ.1 30 (((μ.1 0 46) - 1).toNatClampNeg)) ≠ 9 → (((μ.1 30 (((μ.1 0 46) - 1).toNatClampNeg)) ≠ 10 → (∃ (μ2 : Mem), X10_emit d 5 0 μ1 μ2 ∧ X10_comesOut_at0 d x1 μ2 μ')) ∧ ((μ.1 30 (((μ.1 0 46) - 1).toNatClampNeg)) = 10 → (∃ (μ4 : Mem), X10_emit d 4 0 μ1 μ4 ∧ X10_comesOut_at0 d x1 μ4 μ')))) ∧ ((μ.1 30 (((μ.1 0 46) - 1).toNatClampNeg)) = 9 → (∃ (μ6 : Mem), X10_emit d 3 0 μ1 μ6 ∧ X10_comesOut_at0 d x1 μ6 μ')))) ∧ ((μ.1 30 (((μ.1 0 46) - 1).toNatClampNeg)) = 8 → (∃ (μ8 : Mem), X10_emit d 2 0 μ1 μ8 ∧ X10_comesOut_at0 d x1 μ8 μ'))))) ∧ (¬ x1 = 0 → (((μ.1 30 (((μ.1 0 46) - 1).toNatClampNeg)) = 8 → μ' = μ) ∧ (¬ (μ.1 30 (((μ.1 0 46) - 1).toNatClampNeg)) = 8 → (((μ.1 30 (((μ.1 0 46) - 1).toNatClampNeg)) ≠ 9 → (∀ μ10 : Mem, μ10 = sI μ 0 46 ((μ.1 0 46) - 1) → (((μ.1 30 (((μ.1 0 46) - 1).toNatClampNeg)) ≠ 8 → (((μ.1 30 (((μ.1 0 46) - 1).toNatClampNeg)) ≠ 9 → (((μ.1 30 (((μ.1 0 46) - 1).toNatClampNeg)) ≠ 10 → (∃ (μ11 : Mem), X10_emit d 5 0 μ10 μ11 ∧ X10_comesOut_at0 d x1 μ11 μ')) ∧ ((μ.1 30 (((μ.1 0 46) - 1).toNatClampNeg)) = 10 → (∃ (μ13 : Mem), X10_emit d 4 0 μ10 μ13 ∧ X10_comesOut_at0 d x1 μ13 μ')))) ∧ ((μ.1 30 (((μ.1 0 46) - 1).toNatClampNeg)) = 9 → (∃ (μ15 : Mem), X10_emit d 3 0 μ10 μ15 ∧ X10_comesOut_at0 d x1 μ15 μ')))) ∧ ((μ.1 30 (((μ.1 0 46) - 1).toNatClampNeg)) = 8 → (∃ (μ17 : Mem), X10_emit d 2 0 μ10 μ17 ∧ X10_comesOut_at0 d x1 μ17 μ'))))) ∧ ((μ.1 30 (((μ.1 0 46) - 1).toNatClampNeg)) = 9 → μ' = μ))))))))))) : X10_comesOut_at0 d x1 μ μ' := by
  refine Ev_aload_n dX10_comesOut_0 rfl ?_
  refine Ev_getI flX10_306 rfl dX10_comesOut_1 ?_
  refine Ev_if_le 91 dX10_comesOut_4 (by decide) (fun q => ?_) (fun q => ?_)
  · have h := h.1 q
    subst h
    exact R_v rfl dX10_comesOut_91
  · have h := h.2 q
    refine Ev_aload_n dX10_comesOut_7 rfl ?_
    refine Ev_getF 11 64 30 flX10_107 rfl dX10_comesOut_8 ?_
    refine Ev_aload_n dX10_comesOut_11 rfl ?_
    refine Ev_getI flX10_306 rfl dX10_comesOut_12 ?_
    refine Ev_iconst 1 dX10_comesOut_15 (by decide) ?_
    refine Ev_isub dX10_comesOut_16 ?_
    obtain ⟨g, h⟩ := h
    refine Ev_iald g dX10_comesOut_17 ?_
    refine Ev_istore_n dX10_comesOut_18 (Nat.le_of_ble_eq_true rfl) (okp_of rfl) ?_
    refine Ev_iload_n dX10_comesOut_19 rfl ?_
    refine Ev_bipush 6 dX10_comesOut_20 (by decide) ?_
    refine Ev_icmp_eq 41 dX10_comesOut_22 (by decide) (fun q => ?_) (fun q => ?_)
    · have h := h.1 q
      subst h
      exact R_v rfl dX10_comesOut_41
    · have h := h.2 q
      refine Ev_iload_n dX10_comesOut_25 rfl ?_
      refine Ev_if_eq 42 dX10_comesOut_26 (by decide) (fun q => ?_) (fun q => ?_)
      · have h := h.1 q
        refine Ev_aload_n dX10_comesOut_42 rfl ?_
        refine Ev_dup dX10_comesOut_43 (fun _ z => by cases z) ?_
        refine Ev_getI flX10_306 rfl dX10_comesOut_44 ?_
        refine Ev_iconst 1 dX10_comesOut_47 (by decide) ?_
        refine Ev_isub dX10_comesOut_48 ?_
        refine Ev_putI .int flX10_306 fpX10_46 rfl rfl rfl dX10_comesOut_49 ?_
        have h := h _ rfl
        refine Ev_aload_n dX10_comesOut_52 rfl ?_
        refine Ev_iload_n dX10_comesOut_53 rfl ?_
        refine Ev_bipush 8 dX10_comesOut_54 (by decide) ?_
        refine Ev_icmp_ne 63 dX10_comesOut_56 (by decide) (fun q => ?_) (fun q => ?_)
        · have h := h.1 q
          refine Ev_iload_n dX10_comesOut_63 rfl ?_
          refine Ev_bipush 9 dX10_comesOut_64 (by decide) ?_
          refine Ev_icmp_ne 73 dX10_comesOut_66 (by decide) (fun q => ?_) (fun q => ?_)
          · have h := h.1 q
            refine Ev_iload_n dX10_comesOut_73 rfl ?_
            refine Ev_bipush 10 dX10_comesOut_74 (by decide) ?_
            refine Ev_icmp_ne 83 dX10_comesOut_76 (by decide) (fun q => ?_) (fun q => ?_)
            · have h := h.1 q
              refine Ev_iconst 5 dX10_comesOut_83 (by decide) ?_
              refine Ev_iconst 0 dX10_comesOut_84 (by decide) ?_
              obtain ⟨μ2, hM3, h⟩ := h
              refine Ev_callV [_, _] mlX10_309 rfl rfl (Nat.le_of_ble_eq_true rfl) dX10_comesOut_85 hM3 ?_
              refine Ev_goto 0 dX10_comesOut_88 (by decide) ?_
              refine Ev_weak ?_ h
              exact And.intro rfl (And.intro rfl (And.intro trivial (trivial)))
            · have h := h.2 q
              refine Ev_iconst 4 dX10_comesOut_79 (by decide) ?_
              refine Ev_goto 84 dX10_comesOut_80 (by decide) ?_
              refine Ev_iconst 0 dX10_comesOut_84 (by decide) ?_
              obtain ⟨μ4, hM5, h⟩ := h
              refine Ev_callV [_, _] mlX10_309 rfl rfl (Nat.le_of_ble_eq_true rfl) dX10_comesOut_85 hM5 ?_
              refine Ev_goto 0 dX10_comesOut_88 (by decide) ?_
              refine Ev_weak ?_ h
              exact And.intro rfl (And.intro rfl (And.intro trivial (trivial)))
          · have h := h.2 q
            refine Ev_iconst 3 dX10_comesOut_69 (by decide) ?_
            refine Ev_goto 84 dX10_comesOut_70 (by decide) ?_
            refine Ev_iconst 0 dX10_comesOut_84 (by decide) ?_
            obtain ⟨μ6, hM7, h⟩ := h
            refine Ev_callV [_, _] mlX10_309 rfl rfl (Nat.le_of_ble_eq_true rfl) dX10_comesOut_85 hM7 ?_
            refine Ev_goto 0 dX10_comesOut_88 (by decide) ?_
            refine Ev_weak ?_ h
            exact And.intro rfl (And.intro rfl (And.intro trivial (trivial)))
        · have h := h.2 q
          refine Ev_iconst 2 dX10_comesOut_59 (by decide) ?_
          refine Ev_goto 84 dX10_comesOut_60 (by decide) ?_
          refine Ev_iconst 0 dX10_comesOut_84 (by decide) ?_
          obtain ⟨μ8, hM9, h⟩ := h
          refine Ev_callV [_, _] mlX10_309 rfl rfl (Nat.le_of_ble_eq_true rfl) dX10_comesOut_85 hM9 ?_
          refine Ev_goto 0 dX10_comesOut_88 (by decide) ?_
          refine Ev_weak ?_ h
          exact And.intro rfl (And.intro rfl (And.intro trivial (trivial)))
      · have h := h.2 q
        refine Ev_iload_n dX10_comesOut_29 rfl ?_
        refine Ev_bipush 8 dX10_comesOut_30 (by decide) ?_
        refine Ev_icmp_eq 41 dX10_comesOut_32 (by decide) (fun q => ?_) (fun q => ?_)
        · have h := h.1 q
          subst h
          exact R_v rfl dX10_comesOut_41
        · have h := h.2 q
          refine Ev_iload_n dX10_comesOut_35 rfl ?_
          refine Ev_bipush 9 dX10_comesOut_36 (by decide) ?_
          refine Ev_icmp_ne 42 dX10_comesOut_38 (by decide) (fun q => ?_) (fun q => ?_)
          · have h := h.1 q
            refine Ev_aload_n dX10_comesOut_42 rfl ?_
            refine Ev_dup dX10_comesOut_43 (fun _ z => by cases z) ?_
            refine Ev_getI flX10_306 rfl dX10_comesOut_44 ?_
            refine Ev_iconst 1 dX10_comesOut_47 (by decide) ?_
            refine Ev_isub dX10_comesOut_48 ?_
            refine Ev_putI .int flX10_306 fpX10_46 rfl rfl rfl dX10_comesOut_49 ?_
            have h := h _ rfl
            refine Ev_aload_n dX10_comesOut_52 rfl ?_
            refine Ev_iload_n dX10_comesOut_53 rfl ?_
            refine Ev_bipush 8 dX10_comesOut_54 (by decide) ?_
            refine Ev_icmp_ne 63 dX10_comesOut_56 (by decide) (fun q => ?_) (fun q => ?_)
            · have h := h.1 q
              refine Ev_iload_n dX10_comesOut_63 rfl ?_
              refine Ev_bipush 9 dX10_comesOut_64 (by decide) ?_
              refine Ev_icmp_ne 73 dX10_comesOut_66 (by decide) (fun q => ?_) (fun q => ?_)
              · have h := h.1 q
                refine Ev_iload_n dX10_comesOut_73 rfl ?_
                refine Ev_bipush 10 dX10_comesOut_74 (by decide) ?_
                refine Ev_icmp_ne 83 dX10_comesOut_76 (by decide) (fun q => ?_) (fun q => ?_)
                · have h := h.1 q
                  refine Ev_iconst 5 dX10_comesOut_83 (by decide) ?_
                  refine Ev_iconst 0 dX10_comesOut_84 (by decide) ?_
                  obtain ⟨μ11, hM12, h⟩ := h
                  refine Ev_callV [_, _] mlX10_309 rfl rfl (Nat.le_of_ble_eq_true rfl) dX10_comesOut_85 hM12 ?_
                  refine Ev_goto 0 dX10_comesOut_88 (by decide) ?_
                  refine Ev_weak ?_ h
                  exact And.intro rfl (And.intro rfl (And.intro trivial (trivial)))
                · have h := h.2 q
                  refine Ev_iconst 4 dX10_comesOut_79 (by decide) ?_
                  refine Ev_goto 84 dX10_comesOut_80 (by decide) ?_
                  refine Ev_iconst 0 dX10_comesOut_84 (by decide) ?_
                  obtain ⟨μ13, hM14, h⟩ := h
                  refine Ev_callV [_, _] mlX10_309 rfl rfl (Nat.le_of_ble_eq_true rfl) dX10_comesOut_85 hM14 ?_
                  refine Ev_goto 0 dX10_comesOut_88 (by decide) ?_
                  refine Ev_weak ?_ h
                  exact And.intro rfl (And.intro rfl (And.intro trivial (trivial)))
              · have h := h.2 q
                refine Ev_iconst 3 dX10_comesOut_69 (by decide) ?_
                refine Ev_goto 84 dX10_comesOut_70 (by decide) ?_
                refine Ev_iconst 0 dX10_comesOut_84 (by decide) ?_
                obtain ⟨μ15, hM16, h⟩ := h
                refine Ev_callV [_, _] mlX10_309 rfl rfl (Nat.le_of_ble_eq_true rfl) dX10_comesOut_85 hM16 ?_
                refine Ev_goto 0 dX10_comesOut_88 (by decide) ?_
                refine Ev_weak ?_ h
                exact And.intro rfl (And.intro rfl (And.intro trivial (trivial)))
            · have h := h.2 q
              refine Ev_iconst 2 dX10_comesOut_59 (by decide) ?_
              refine Ev_goto 84 dX10_comesOut_60 (by decide) ?_
              refine Ev_iconst 0 dX10_comesOut_84 (by decide) ?_
              obtain ⟨μ17, hM18, h⟩ := h
              refine Ev_callV [_, _] mlX10_309 rfl rfl (Nat.le_of_ble_eq_true rfl) dX10_comesOut_85 hM18 ?_
              refine Ev_goto 0 dX10_comesOut_88 (by decide) ?_
              refine Ev_weak ?_ h
              exact And.intro rfl (And.intro rfl (And.intro trivial (trivial)))
          · have h := h.2 q
            subst h
            exact R_v rfl dX10_comesOut_41
set_option maxHeartbeats 4000000 in
set_option maxRecDepth 100000 in
theorem X10_copies_ok {d : Nat}  {μ μ' : Mem} (h : X10_copies_at2 d 0 μ μ') : X10_copies d μ μ' := by
  refine Me_of [some (vr 10 0 0), none] rfl (Nat.le_of_ble_eq_true rfl) (by decide) ?_
  refine Ev_iconst 0 dX10_copies_0 (by decide) ?_
  refine Ev_istore_n dX10_copies_1 (Nat.le_of_ble_eq_true rfl) (okp_of rfl) ?_
  exact h
set_option maxHeartbeats 4000000 in
set_option maxRecDepth 100000 in
theorem X10_copies_at2_ok {d : Nat} {x1 : Int32} {μ μ' : Mem} (h : ((92 ≤ x1 → vp_in (μ.1 0 18) 2 ∧ (∀ μ1 : Mem, μ1 = sI μ 0 52 (μ.1 20 ((μ.1 0 18).toNatClampNeg)) → μ' = μ1)) ∧ (¬ 92 ≤ x1 → vp_in x1 92 ∧ vp_in x1 92 ∧ (∀ μ2 : Mem, μ2 = sI μ 34 x1.toNatClampNeg (μ.1 33 x1.toNatClampNeg) → X10_copies_at2 d (x1 + 1) μ2 μ')))) : X10_copies_at2 d x1 μ μ' := by
  refine Ev_iload_n dX10_copies_2 rfl ?_
  refine Ev_bipush 92 dX10_copies_3 (by decide) ?_
  refine Ev_icmp_ge 26 dX10_copies_5 (by decide) (fun q => ?_) (fun q => ?_)
  · have h := h.1 q
    refine Ev_aload_n dX10_copies_26 rfl ?_
    refine Ev_aload_n dX10_copies_27 rfl ?_
    refine Ev_getF 11 2 20 flX10_76 rfl dX10_copies_28 ?_
    refine Ev_aload_n dX10_copies_31 rfl ?_
    refine Ev_getI flX10_239 rfl dX10_copies_32 ?_
    obtain ⟨g, h⟩ := h
    refine Ev_iald g dX10_copies_35 ?_
    refine Ev_putI .int flX10_327 fpX10_52 rfl rfl rfl dX10_copies_36 ?_
    have h := h _ rfl
    subst h
    exact R_v rfl dX10_copies_39
  · have h := h.2 q
    refine Ev_aload_n dX10_copies_8 rfl ?_
    refine Ev_getF 11 92 34 flX10_119 rfl dX10_copies_9 ?_
    refine Ev_iload_n dX10_copies_12 rfl ?_
    refine Ev_aload_n dX10_copies_13 rfl ?_
    refine Ev_getF 11 92 33 flX10_116 rfl dX10_copies_14 ?_
    refine Ev_iload_n dX10_copies_17 rfl ?_
    obtain ⟨g, h⟩ := h
    refine Ev_iald g dX10_copies_18 ?_
    obtain ⟨g, h⟩ := h
    refine Ev_iast g dX10_copies_19 ?_
    have h := h _ rfl
    refine Ev_iinc (x1 + 1) dX10_copies_20 rfl rfl (okp_of rfl) ?_
    refine Ev_goto 2 dX10_copies_23 (by decide) ?_
    exact h
set_option maxHeartbeats 4000000 in
set_option maxRecDepth 100000 in
theorem X10_count_ok {d : Nat} {x1 : Int32} {μ μ' : Mem} {x : Int32} (h : ((x1 = 0 → vp_in (μ.1 0 18) 2 ∧ (x = μ.1 10 ((μ.1 0 18).toNatClampNeg) ∧ μ' = μ)) ∧ (x1 = 1 → vp_in (μ.1 0 18) 2 ∧ (x = μ.1 9 ((μ.1 0 18).toNatClampNeg) ∧ μ' = μ)) ∧ (x1 = 2 → vp_in (μ.1 0 18) 2 ∧ (x = μ.1 12 ((μ.1 0 18).toNatClampNeg) ∧ μ' = μ)) ∧ (x1 = 3 → vp_in (μ.1 0 18) 2 ∧ (x = μ.1 15 ((μ.1 0 18).toNatClampNeg) ∧ μ' = μ)) ∧ (x1 = 4 → (x = μ.1 33 89 ∧ μ' = μ)) ∧ (x1 = 5 → (x = μ.1 33 88 ∧ μ' = μ)) ∧ (x1 = 6 → (∃ (y3 : Int32) (μ1 : Mem), X10_sumNow d 0 48 μ y3 μ1 ∧ (x = y3 ∧ μ' = μ1))) ∧ (x1 = 7 → (x = μ.1 33 90 ∧ μ' = μ)) ∧ (x1 = 8 → (x = μ.1 0 2 ∧ μ' = μ)) ∧ (x1 = 9 → (x = μ.1 0 53 ∧ μ' = μ)) ∧ (x1 = 10 → (x = μ.1 0 65 ∧ μ' = μ)) ∧ (x1 = 11 → (((μ.1 45 0) = 0 → X10_count_at173 d 0 μ x μ') ∧ (¬ (μ.1 45 0) = 0 → X10_count_at173 d 1 μ x μ'))) ∧ (x1 = 12 → (∃ (y6 : Int32) (μ4 : Mem), X10_sumNow d 76 6 μ y6 μ4 ∧ (x = y6 ∧ μ' = μ4))) ∧ (x1 = 13 → (∃ (y9 : Int32) (μ7 : Mem), X10_sumNow d 82 6 μ y9 μ7 ∧ (x = y9 ∧ μ' = μ7))) ∧ (((x1).toInt < 0 ∨ 13 < (x1).toInt) → (x = (-1) ∧ μ' = μ)))) : X10_count (d + 1) x1 μ x μ' := by
  refine Me_of [some (vr 10 0 0), some (vi x1)] rfl (Nat.le_of_ble_eq_true rfl) (by decide) ?_
  refine Ev_iload_n dX10_count_0 rfl ?_
  refine Ev_tab 222 dX10_count_1 (by decide) (fun k hk e => ?_) (fun q => ?_)
  · rcases (show k = 0 ∨ k = 1 ∨ k = 2 ∨ k = 3 ∨ k = 4 ∨ k = 5 ∨ k = 6 ∨ k = 7 ∨ k = 8 ∨ k = 9 ∨ k = 10 ∨ k = 11 ∨ k = 12 ∨ k = 13 by omega) with rfl | rfl | rfl | rfl | rfl | rfl | rfl | rfl | rfl | rfl | rfl | rfl | rfl | rfl
    · have h := h.1 (Int32.toInt_inj.mp (e.trans (by decide)))
      refine ⟨_, 72, rfl, by decide, ?_⟩
      refine Ev_aload_n dX10_count_72 rfl ?_
      refine Ev_getF 11 2 10 flX10_46 rfl dX10_count_73 ?_
      refine Ev_aload_n dX10_count_76 rfl ?_
      refine Ev_getI flX10_239 rfl dX10_count_77 ?_
      obtain ⟨g, h⟩ := h
      refine Ev_iald g dX10_count_80 ?_
      obtain ⟨rfl, rfl⟩ := h
      exact R_i rfl dX10_count_81 rfl
    · have h := h.2.1 (Int32.toInt_inj.mp (e.trans (by decide)))
      refine ⟨_, 82, rfl, by decide, ?_⟩
      refine Ev_aload_n dX10_count_82 rfl ?_
      refine Ev_getF 11 2 9 flX10_43 rfl dX10_count_83 ?_
      refine Ev_aload_n dX10_count_86 rfl ?_
      refine Ev_getI flX10_239 rfl dX10_count_87 ?_
      obtain ⟨g, h⟩ := h
      refine Ev_iald g dX10_count_90 ?_
      obtain ⟨rfl, rfl⟩ := h
      exact R_i rfl dX10_count_91 rfl
    · have h := h.2.2.1 (Int32.toInt_inj.mp (e.trans (by decide)))
      refine ⟨_, 92, rfl, by decide, ?_⟩
      refine Ev_aload_n dX10_count_92 rfl ?_
      refine Ev_getF 11 2 12 flX10_52 rfl dX10_count_93 ?_
      refine Ev_aload_n dX10_count_96 rfl ?_
      refine Ev_getI flX10_239 rfl dX10_count_97 ?_
      obtain ⟨g, h⟩ := h
      refine Ev_iald g dX10_count_100 ?_
      obtain ⟨rfl, rfl⟩ := h
      exact R_i rfl dX10_count_101 rfl
    · have h := h.2.2.2.1 (Int32.toInt_inj.mp (e.trans (by decide)))
      refine ⟨_, 102, rfl, by decide, ?_⟩
      refine Ev_aload_n dX10_count_102 rfl ?_
      refine Ev_getF 11 2 15 flX10_61 rfl dX10_count_103 ?_
      refine Ev_aload_n dX10_count_106 rfl ?_
      refine Ev_getI flX10_239 rfl dX10_count_107 ?_
      obtain ⟨g, h⟩ := h
      refine Ev_iald g dX10_count_110 ?_
      obtain ⟨rfl, rfl⟩ := h
      exact R_i rfl dX10_count_111 rfl
    · have h := h.2.2.2.2.1 (Int32.toInt_inj.mp (e.trans (by decide)))
      refine ⟨_, 112, rfl, by decide, ?_⟩
      refine Ev_aload_n dX10_count_112 rfl ?_
      refine Ev_getF 11 92 33 flX10_116 rfl dX10_count_113 ?_
      refine Ev_bipush 89 dX10_count_116 (by decide) ?_
      refine Ev_iald (n := 92) (vp_lit (by decide)) dX10_count_118 ?_
      obtain ⟨rfl, rfl⟩ := h
      exact R_i rfl dX10_count_119 rfl
    · have h := h.2.2.2.2.2.1 (Int32.toInt_inj.mp (e.trans (by decide)))
      refine ⟨_, 120, rfl, by decide, ?_⟩
      refine Ev_aload_n dX10_count_120 rfl ?_
      refine Ev_getF 11 92 33 flX10_116 rfl dX10_count_121 ?_
      refine Ev_bipush 88 dX10_count_124 (by decide) ?_
      refine Ev_iald (n := 92) (vp_lit (by decide)) dX10_count_126 ?_
      obtain ⟨rfl, rfl⟩ := h
      exact R_i rfl dX10_count_127 rfl
    · have h := h.2.2.2.2.2.2.1 (Int32.toInt_inj.mp (e.trans (by decide)))
      refine ⟨_, 128, rfl, by decide, ?_⟩
      refine Ev_aload_n dX10_count_128 rfl ?_
      refine Ev_iconst 0 dX10_count_129 (by decide) ?_
      refine Ev_bipush 48 dX10_count_130 (by decide) ?_
      obtain ⟨y3, μ1, hM2, h⟩ := h
      refine Ev_callV [_, _] mlX10_480 rfl rfl (Nat.le_of_ble_eq_true rfl) dX10_count_132 hM2 ?_
      obtain ⟨rfl, rfl⟩ := h
      exact R_i rfl dX10_count_135 rfl
    · have h := h.2.2.2.2.2.2.2.1 (Int32.toInt_inj.mp (e.trans (by decide)))
      refine ⟨_, 136, rfl, by decide, ?_⟩
      refine Ev_aload_n dX10_count_136 rfl ?_
      refine Ev_getF 11 92 33 flX10_116 rfl dX10_count_137 ?_
      refine Ev_bipush 90 dX10_count_140 (by decide) ?_
      refine Ev_iald (n := 92) (vp_lit (by decide)) dX10_count_142 ?_
      obtain ⟨rfl, rfl⟩ := h
      exact R_i rfl dX10_count_143 rfl
    · have h := h.2.2.2.2.2.2.2.2.1 (Int32.toInt_inj.mp (e.trans (by decide)))
      refine ⟨_, 144, rfl, by decide, ?_⟩
      refine Ev_aload_n dX10_count_144 rfl ?_
      refine Ev_getI flX10_172 rfl dX10_count_145 ?_
      obtain ⟨rfl, rfl⟩ := h
      exact R_i rfl dX10_count_148 rfl
    · have h := h.2.2.2.2.2.2.2.2.2.1 (Int32.toInt_inj.mp (e.trans (by decide)))
      refine ⟨_, 149, rfl, by decide, ?_⟩
      refine Ev_aload_n dX10_count_149 rfl ?_
      refine Ev_getI flX10_265 rfl dX10_count_150 ?_
      obtain ⟨rfl, rfl⟩ := h
      exact R_i rfl dX10_count_153 rfl
    · have h := h.2.2.2.2.2.2.2.2.2.2.1 (Int32.toInt_inj.mp (e.trans (by decide)))
      refine ⟨_, 154, rfl, by decide, ?_⟩
      refine Ev_aload_n dX10_count_154 rfl ?_
      refine Ev_getI flX10_268 rfl dX10_count_155 ?_
      obtain ⟨rfl, rfl⟩ := h
      exact R_i rfl dX10_count_158 rfl
    · have h := h.2.2.2.2.2.2.2.2.2.2.2.1 (Int32.toInt_inj.mp (e.trans (by decide)))
      refine ⟨_, 159, rfl, by decide, ?_⟩
      refine Ev_aload_n dX10_count_159 rfl ?_
      refine Ev_getF 14 3 45 flX10_152 rfl dX10_count_160 ?_
      refine Ev_iconst 0 dX10_count_163 (by decide) ?_
      refine Ev_zald (n := 3) (vp_lit (by decide)) dX10_count_164 ?_
      refine Ev_if_eq 172 dX10_count_165 (by decide) (fun q => ?_) (fun q => ?_)
      · have h := h.1 q
        refine Ev_iconst 0 dX10_count_172 (by decide) ?_
        refine Ev_weak ?_ h
        exact And.intro rfl (And.intro trivial (trivial))
      · have h := h.2 q
        refine Ev_iconst 1 dX10_count_168 (by decide) ?_
        refine Ev_goto 173 dX10_count_169 (by decide) ?_
        refine Ev_weak ?_ h
        exact And.intro rfl (And.intro trivial (trivial))
    · have h := h.2.2.2.2.2.2.2.2.2.2.2.2.1 (Int32.toInt_inj.mp (e.trans (by decide)))
      refine ⟨_, 204, rfl, by decide, ?_⟩
      refine Ev_aload_n dX10_count_204 rfl ?_
      refine Ev_bipush 76 dX10_count_205 (by decide) ?_
      refine Ev_bipush 6 dX10_count_207 (by decide) ?_
      obtain ⟨y6, μ4, hM5, h⟩ := h
      refine Ev_callV [_, _] mlX10_480 rfl rfl (Nat.le_of_ble_eq_true rfl) dX10_count_209 hM5 ?_
      obtain ⟨rfl, rfl⟩ := h
      exact R_i rfl dX10_count_212 rfl
    · have h := h.2.2.2.2.2.2.2.2.2.2.2.2.2.1 (Int32.toInt_inj.mp (e.trans (by decide)))
      refine ⟨_, 213, rfl, by decide, ?_⟩
      refine Ev_aload_n dX10_count_213 rfl ?_
      refine Ev_bipush 82 dX10_count_214 (by decide) ?_
      refine Ev_bipush 6 dX10_count_216 (by decide) ?_
      obtain ⟨y9, μ7, hM8, h⟩ := h
      refine Ev_callV [_, _] mlX10_480 rfl rfl (Nat.le_of_ble_eq_true rfl) dX10_count_218 hM8 ?_
      obtain ⟨rfl, rfl⟩ := h
      exact R_i rfl dX10_count_221 rfl
  · have h := h.2.2.2.2.2.2.2.2.2.2.2.2.2.2 q
    refine Ev_iconst (-1) dX10_count_222 (by decide) ?_
    obtain ⟨rfl, rfl⟩ := h
    exact R_i rfl dX10_count_223 rfl
set_option maxHeartbeats 4000000 in
set_option maxRecDepth 100000 in
theorem X10_count_at173_ok {d : Nat} {s0 : Int32} {μ μ' : Mem} {x : Int32} (h : (((μ.1 45 1) = 0 → X10_count_at187 d s0 0 μ x μ') ∧ (¬ (μ.1 45 1) = 0 → X10_count_at187 d s0 1 μ x μ'))) : X10_count_at173 d s0 μ x μ' := by
  refine Ev_aload_n dX10_count_173 rfl ?_
  refine Ev_getF 14 3 45 flX10_152 rfl dX10_count_174 ?_
  refine Ev_iconst 1 dX10_count_177 (by decide) ?_
  refine Ev_zald (n := 3) (vp_lit (by decide)) dX10_count_178 ?_
  refine Ev_if_eq 186 dX10_count_179 (by decide) (fun q => ?_) (fun q => ?_)
  · have h := h.1 q
    refine Ev_iconst 0 dX10_count_186 (by decide) ?_
    exact h
  · have h := h.2 q
    refine Ev_iconst 1 dX10_count_182 (by decide) ?_
    refine Ev_goto 187 dX10_count_183 (by decide) ?_
    exact h
set_option maxHeartbeats 4000000 in
set_option maxRecDepth 100000 in
theorem X10_count_at187_ok {d : Nat} {s0 : Int32} {s1 : Int32} {μ μ' : Mem} {x : Int32} (h : (((μ.1 45 2) = 0 → X10_count_at202 d (s0 + s1) 0 μ x μ') ∧ (¬ (μ.1 45 2) = 0 → X10_count_at202 d (s0 + s1) 1 μ x μ'))) : X10_count_at187 d s0 s1 μ x μ' := by
  refine Ev_iadd dX10_count_187 ?_
  refine Ev_aload_n dX10_count_188 rfl ?_
  refine Ev_getF 14 3 45 flX10_152 rfl dX10_count_189 ?_
  refine Ev_iconst 2 dX10_count_192 (by decide) ?_
  refine Ev_zald (n := 3) (vp_lit (by decide)) dX10_count_193 ?_
  refine Ev_if_eq 201 dX10_count_194 (by decide) (fun q => ?_) (fun q => ?_)
  · have h := h.1 q
    refine Ev_iconst 0 dX10_count_201 (by decide) ?_
    refine Ev_weak ?_ h
    exact And.intro trivial (And.intro trivial (trivial))
  · have h := h.2 q
    refine Ev_iconst 1 dX10_count_197 (by decide) ?_
    refine Ev_goto 202 dX10_count_198 (by decide) ?_
    refine Ev_weak ?_ h
    exact And.intro trivial (And.intro trivial (trivial))
set_option maxHeartbeats 4000000 in
set_option maxRecDepth 100000 in
theorem X10_count_at202_ok {d : Nat} {s0 : Int32} {s1 : Int32} {μ μ' : Mem} {x : Int32} (h : (x = s0 + s1 ∧ μ' = μ)) : X10_count_at202 d s0 s1 μ x μ' := by
  refine Ev_iadd dX10_count_202 ?_
  obtain ⟨rfl, rfl⟩ := h
  exact R_i rfl dX10_count_203 rfl
set_option maxHeartbeats 4000000 in
set_option maxRecDepth 100000 in
theorem X10_cut_ok {d : Nat} {x1 : Int32} {x2 : Int32} {x3 : Int32} {x4 : Int32} {μ μ' : Mem} {x : Int32} (h : (∀ μ1 : Mem, μ1 = sI μ 0 61 0 → (∃ (y4 : Int32) (μ2 : Mem), X10_adds d x1 μ1 y4 μ2 ∧ ((y4 ≠ 0 → ((x2 = 0 → ((x2 ≠ 0 → X10_cut_at35 d x3 x4 μ2 x μ') ∧ (x2 = 0 → ((x3 ≠ 0 → X10_cut_at70 d μ2 x μ') ∧ (x3 = 0 → X10_cut_at35 d x3 x4 μ2 x μ'))))) ∧ (¬ x2 = 0 → (∃ (y7 : Int32) (μ5 : Mem), X10_adds d x2 μ2 y7 μ5 ∧ ((y7 = 0 → X10_cut_at70 d μ5 x μ') ∧ (¬ y7 = 0 → ((x2 ≠ 0 → X10_cut_at35 d x3 x4 μ5 x μ') ∧ (x2 = 0 → ((x3 ≠ 0 → X10_cut_at70 d μ5 x μ') ∧ (x3 = 0 → X10_cut_at35 d x3 x4 μ5 x μ')))))))))) ∧ (y4 = 0 → (x = (-1) ∧ μ' = μ2)))))) : X10_cut (d + 1) x1 x2 x3 x4 μ x μ' := by
  refine Me_of [some (vr 10 0 0), some (vi x1), some (vi x2), some (vi x3), some (vi x4), none, none, none, none] rfl (Nat.le_of_ble_eq_true rfl) (by decide) ?_
  refine Ev_aload_n dX10_cut_0 rfl ?_
  refine Ev_iconst 0 dX10_cut_1 (by decide) ?_
  refine Ev_putI .int flX10_427 fpX10_61 rfl rfl rfl dX10_cut_2 ?_
  have h := h _ rfl
  refine Ev_aload_n dX10_cut_5 rfl ?_
  refine Ev_iload_n dX10_cut_6 rfl ?_
  obtain ⟨y4, μ2, hM3, h⟩ := h
  refine Ev_callV [_] mlX10_436 rfl rfl (Nat.le_of_ble_eq_true rfl) dX10_cut_7 hM3 ?_
  refine Ev_if_ne 15 dX10_cut_10 (by decide) (fun q => ?_) (fun q => ?_)
  · have h := h.1 q
    refine Ev_iload_n dX10_cut_15 rfl ?_
    refine Ev_if_eq 27 dX10_cut_16 (by decide) (fun q => ?_) (fun q => ?_)
    · have h := h.1 q
      refine Ev_iload_n dX10_cut_27 rfl ?_
      refine Ev_if_ne 35 dX10_cut_28 (by decide) (fun q => ?_) (fun q => ?_)
      · have h := h.1 q
        refine Ev_weak ?_ h
        exact And.intro rfl (And.intro trivial (And.intro trivial (And.intro rfl (And.intro rfl (And.intro trivial (And.intro trivial (And.intro trivial (And.intro trivial (trivial)))))))))
      · have h := h.2 q
        refine Ev_iload_n dX10_cut_31 rfl ?_
        refine Ev_if_ne 70 dX10_cut_32 (by decide) (fun q => ?_) (fun q => ?_)
        · have h := h.1 q
          refine Ev_weak ?_ h
          exact And.intro trivial (And.intro trivial (And.intro trivial (And.intro trivial (And.intro trivial (And.intro trivial (And.intro trivial (And.intro trivial (And.intro trivial (trivial)))))))))
        · have h := h.2 q
          refine Ev_weak ?_ h
          exact And.intro rfl (And.intro trivial (And.intro trivial (And.intro rfl (And.intro rfl (And.intro trivial (And.intro trivial (And.intro trivial (And.intro trivial (trivial)))))))))
    · have h := h.2 q
      refine Ev_aload_n dX10_cut_19 rfl ?_
      refine Ev_iload_n dX10_cut_20 rfl ?_
      obtain ⟨y7, μ5, hM6, h⟩ := h
      refine Ev_callV [_] mlX10_436 rfl rfl (Nat.le_of_ble_eq_true rfl) dX10_cut_21 hM6 ?_
      refine Ev_if_eq 70 dX10_cut_24 (by decide) (fun q => ?_) (fun q => ?_)
      · have h := h.1 q
        refine Ev_weak ?_ h
        exact And.intro trivial (And.intro trivial (And.intro trivial (And.intro trivial (And.intro trivial (And.intro trivial (And.intro trivial (And.intro trivial (And.intro trivial (trivial)))))))))
      · have h := h.2 q
        refine Ev_iload_n dX10_cut_27 rfl ?_
        refine Ev_if_ne 35 dX10_cut_28 (by decide) (fun q => ?_) (fun q => ?_)
        · have h := h.1 q
          refine Ev_weak ?_ h
          exact And.intro rfl (And.intro trivial (And.intro trivial (And.intro rfl (And.intro rfl (And.intro trivial (And.intro trivial (And.intro trivial (And.intro trivial (trivial)))))))))
        · have h := h.2 q
          refine Ev_iload_n dX10_cut_31 rfl ?_
          refine Ev_if_ne 70 dX10_cut_32 (by decide) (fun q => ?_) (fun q => ?_)
          · have h := h.1 q
            refine Ev_weak ?_ h
            exact And.intro trivial (And.intro trivial (And.intro trivial (And.intro trivial (And.intro trivial (And.intro trivial (And.intro trivial (And.intro trivial (And.intro trivial (trivial)))))))))
          · have h := h.2 q
            refine Ev_weak ?_ h
            exact And.intro rfl (And.intro trivial (And.intro trivial (And.intro rfl (And.intro rfl (And.intro trivial (And.intro trivial (And.intro trivial (And.intro trivial (trivial)))))))))
  · have h := h.2 q
    refine Ev_iconst (-1) dX10_cut_13 (by decide) ?_
    obtain ⟨rfl, rfl⟩ := h
    exact R_i rfl dX10_cut_14 rfl
set_option maxHeartbeats 4000000 in
set_option maxRecDepth 100000 in
theorem X10_cut_at35_ok {d : Nat} {x3 : Int32} {x4 : Int32} {μ μ' : Mem} {x : Int32} (h : ((x3 = 0 → X10_cut_at47 d x3 x4 μ x μ') ∧ (¬ x3 = 0 → (∃ (y3 : Int32) (μ1 : Mem), X10_adds d x3 μ y3 μ1 ∧ ((y3 = 0 → X10_cut_at70 d μ1 x μ') ∧ (¬ y3 = 0 → X10_cut_at47 d x3 x4 μ1 x μ')))))) : X10_cut_at35 d x3 x4 μ x μ' := by
  refine Ev_iload_n dX10_cut_35 rfl ?_
  refine Ev_if_eq 47 dX10_cut_36 (by decide) (fun q => ?_) (fun q => ?_)
  · have h := h.1 q
    exact h
  · have h := h.2 q
    refine Ev_aload_n dX10_cut_39 rfl ?_
    refine Ev_iload_n dX10_cut_40 rfl ?_
    obtain ⟨y3, μ1, hM2, h⟩ := h
    refine Ev_callV [_] mlX10_436 rfl rfl (Nat.le_of_ble_eq_true rfl) dX10_cut_41 hM2 ?_
    refine Ev_if_eq 70 dX10_cut_44 (by decide) (fun q => ?_) (fun q => ?_)
    · have h := h.1 q
      refine Ev_weak ?_ h
      exact And.intro trivial (And.intro trivial (And.intro trivial (And.intro trivial (And.intro trivial (And.intro trivial (And.intro trivial (And.intro trivial (And.intro trivial (trivial)))))))))
    · have h := h.2 q
      exact h
set_option maxHeartbeats 4000000 in
set_option maxRecDepth 100000 in
theorem X10_cut_at70_ok {d : Nat}  {μ μ' : Mem} {x : Int32} (h : (x = (-1) ∧ μ' = μ)) : X10_cut_at70 d μ x μ' := by
  refine Ev_iconst (-1) dX10_cut_70 (by decide) ?_
  obtain ⟨rfl, rfl⟩ := h
  exact R_i rfl dX10_cut_71 rfl
set_option maxHeartbeats 4000000 in
set_option maxRecDepth 100000 in
theorem X10_cut_at47_ok {d : Nat} {x3 : Int32} {x4 : Int32} {μ μ' : Mem} {x : Int32} (h : ((x3 ≠ 0 → X10_cut_at56 d x4 μ x μ') ∧ (x3 = 0 → ((x4 ≠ 0 → X10_cut_at70 d μ x μ') ∧ (x4 = 0 → X10_cut_at56 d x4 μ x μ'))))) : X10_cut_at47 d x3 x4 μ x μ' := by
  refine Ev_iload_n dX10_cut_47 rfl ?_
  refine Ev_if_ne 56 dX10_cut_48 (by decide) (fun q => ?_) (fun q => ?_)
  · have h := h.1 q
    refine Ev_weak ?_ h
    exact And.intro rfl (And.intro trivial (And.intro trivial (And.intro trivial (And.intro rfl (And.intro trivial (And.intro trivial (And.intro trivial (And.intro trivial (trivial)))))))))
  · have h := h.2 q
    refine Ev_iload dX10_cut_51 rfl ?_
    refine Ev_if_ne 70 dX10_cut_53 (by decide) (fun q => ?_) (fun q => ?_)
    · have h := h.1 q
      refine Ev_weak ?_ h
      exact And.intro trivial (And.intro trivial (And.intro trivial (And.intro trivial (And.intro trivial (And.intro trivial (And.intro trivial (And.intro trivial (And.intro trivial (trivial)))))))))
    · have h := h.2 q
      refine Ev_weak ?_ h
      exact And.intro rfl (And.intro trivial (And.intro trivial (And.intro trivial (And.intro rfl (And.intro trivial (And.intro trivial (And.intro trivial (And.intro trivial (trivial)))))))))
set_option maxHeartbeats 4000000 in
set_option maxRecDepth 100000 in
theorem X10_cut_at56_ok {d : Nat} {x4 : Int32} {μ μ' : Mem} {x : Int32} (h : ((x4 = 0 → X10_cut_at72 d μ x μ') ∧ (¬ x4 = 0 → (∃ (y3 : Int32) (μ1 : Mem), X10_adds d x4 μ y3 μ1 ∧ ((y3 ≠ 0 → X10_cut_at72 d μ1 x μ') ∧ (y3 = 0 → X10_cut_at70 d μ1 x μ')))))) : X10_cut_at56 d x4 μ x μ' := by
  refine Ev_iload dX10_cut_56 rfl ?_
  refine Ev_if_eq 72 dX10_cut_58 (by decide) (fun q => ?_) (fun q => ?_)
  · have h := h.1 q
    refine Ev_weak ?_ h
    exact And.intro rfl (And.intro trivial (And.intro trivial (And.intro trivial (And.intro trivial (And.intro trivial (And.intro trivial (And.intro trivial (And.intro trivial (trivial)))))))))
  · have h := h.2 q
    refine Ev_aload_n dX10_cut_61 rfl ?_
    refine Ev_iload dX10_cut_62 rfl ?_
    obtain ⟨y3, μ1, hM2, h⟩ := h
    refine Ev_callV [_] mlX10_436 rfl rfl (Nat.le_of_ble_eq_true rfl) dX10_cut_64 hM2 ?_
    refine Ev_if_ne 72 dX10_cut_67 (by decide) (fun q => ?_) (fun q => ?_)
    · have h := h.1 q
      refine Ev_weak ?_ h
      exact And.intro rfl (And.intro trivial (And.intro trivial (And.intro trivial (And.intro trivial (And.intro trivial (And.intro trivial (And.intro trivial (And.intro trivial (trivial)))))))))
    · have h := h.2 q
      refine Ev_weak ?_ h
      exact And.intro trivial (And.intro trivial (And.intro trivial (And.intro trivial (And.intro trivial (And.intro trivial (And.intro trivial (And.intro trivial (And.intro trivial (trivial)))))))))
set_option maxHeartbeats 4000000 in
set_option maxRecDepth 100000 in
theorem X10_cut_at72_ok {d : Nat}  {μ μ' : Mem} {x : Int32} (h : X10_cut_at84 d 0 0 0 0 μ x μ') : X10_cut_at72 d μ x μ' := by
  refine Ev_iconst 0 dX10_cut_72 (by decide) ?_
  refine Ev_istore dX10_cut_73 (Nat.le_of_ble_eq_true rfl) (okp_of rfl) ?_
  refine Ev_iconst 0 dX10_cut_75 (by decide) ?_
  refine Ev_istore dX10_cut_76 (Nat.le_of_ble_eq_true rfl) (okp_of rfl) ?_
  refine Ev_iconst 0 dX10_cut_78 (by decide) ?_
  refine Ev_istore dX10_cut_79 (Nat.le_of_ble_eq_true rfl) (okp_of rfl) ?_
  refine Ev_iconst 0 dX10_cut_81 (by decide) ?_
  refine Ev_istore dX10_cut_82 (Nat.le_of_ble_eq_true rfl) (okp_of rfl) ?_
  exact h
set_option maxHeartbeats 4000000 in
set_option maxRecDepth 100000 in
theorem X10_cut_at84_ok {d : Nat} {x5 : Int32} {x6 : Int32} {x7 : Int32} {x8 : Int32} {μ μ' : Mem} {x : Int32} (h : (((μ.1 0 61) ≤ x8 → ((x7 ≤ x6 → ((((x5 + 7) / 8) ≤ x6 → X10_cut_at197 d x6 μ x μ') ∧ (¬ ((x5 + 7) / 8) ≤ x6 → X10_cut_at197 d ((x5 + 7) / 8) μ x μ'))) ∧ (¬ x7 ≤ x6 → ((((x5 + 7) / 8) ≤ x7 → X10_cut_at197 d x7 μ x μ') ∧ (¬ ((x5 + 7) / 8) ≤ x7 → X10_cut_at197 d ((x5 + 7) / 8) μ x μ'))))) ∧ (¬ (μ.1 0 61) ≤ x8 → vp_in x8 4 ∧ vp_in x8 4 ∧ vp_in x8 4 ∧ (((μ.1 36 x8.toNatClampNeg) ≤ 4 → X10_cut_at136 d (x5 + ((μ.1 36 x8.toNatClampNeg) * (μ.1 37 x8.toNatClampNeg))) x6 x7 x8 μ x μ') ∧ (¬ (μ.1 36 x8.toNatClampNeg) ≤ 4 → vp_in x8 4 ∧ X10_cut_at136 d (x5 + ((μ.1 36 x8.toNatClampNeg) * (μ.1 37 x8.toNatClampNeg))) x6 (x7 + (μ.1 37 x8.toNatClampNeg)) x8 μ x μ'))))) : X10_cut_at84 d x5 x6 x7 x8 μ x μ' := by
  refine Ev_iload dX10_cut_84 rfl ?_
  refine Ev_aload_n dX10_cut_86 rfl ?_
  refine Ev_getI flX10_427 rfl dX10_cut_87 ?_
  refine Ev_icmp_ge 163 dX10_cut_90 (by decide) (fun q => ?_) (fun q => ?_)
  · have h := h.1 q
    refine Ev_iload dX10_cut_163 rfl ?_
    refine Ev_iload dX10_cut_165 rfl ?_
    refine Ev_icmp_le 174 dX10_cut_167 (by decide) (fun q => ?_) (fun q => ?_)
    · have h := h.1 q
      refine Ev_iload dX10_cut_174 rfl ?_
      refine Ev_bipush 7 dX10_cut_176 (by decide) ?_
      refine Ev_iadd dX10_cut_178 ?_
      refine Ev_bipush 8 dX10_cut_179 (by decide) ?_
      refine Ev_idiv dX10_cut_181 (by decide) ?_
      refine Ev_iload dX10_cut_182 rfl ?_
      refine Ev_icmp_le 197 dX10_cut_184 (by decide) (fun q => ?_) (fun q => ?_)
      · have h := h.1 q
        refine Ev_weak ?_ h
        exact And.intro rfl (And.intro trivial (And.intro trivial (And.intro trivial (And.intro trivial (And.intro trivial (And.intro rfl (And.intro trivial (And.intro trivial (trivial)))))))))
      · have h := h.2 q
        refine Ev_iload dX10_cut_187 rfl ?_
        refine Ev_bipush 7 dX10_cut_189 (by decide) ?_
        refine Ev_iadd dX10_cut_191 ?_
        refine Ev_bipush 8 dX10_cut_192 (by decide) ?_
        refine Ev_idiv dX10_cut_194 (by decide) ?_
        refine Ev_istore dX10_cut_195 (Nat.le_of_ble_eq_true rfl) (okp_of rfl) ?_
        refine Ev_weak ?_ h
        exact And.intro rfl (And.intro trivial (And.intro trivial (And.intro trivial (And.intro trivial (And.intro trivial (And.intro rfl (And.intro trivial (And.intro trivial (trivial)))))))))
    · have h := h.2 q
      refine Ev_iload dX10_cut_170 rfl ?_
      refine Ev_istore dX10_cut_172 (Nat.le_of_ble_eq_true rfl) (okp_of rfl) ?_
      refine Ev_iload dX10_cut_174 rfl ?_
      refine Ev_bipush 7 dX10_cut_176 (by decide) ?_
      refine Ev_iadd dX10_cut_178 ?_
      refine Ev_bipush 8 dX10_cut_179 (by decide) ?_
      refine Ev_idiv dX10_cut_181 (by decide) ?_
      refine Ev_iload dX10_cut_182 rfl ?_
      refine Ev_icmp_le 197 dX10_cut_184 (by decide) (fun q => ?_) (fun q => ?_)
      · have h := h.1 q
        refine Ev_weak ?_ h
        exact And.intro rfl (And.intro trivial (And.intro trivial (And.intro trivial (And.intro trivial (And.intro trivial (And.intro rfl (And.intro trivial (And.intro trivial (trivial)))))))))
      · have h := h.2 q
        refine Ev_iload dX10_cut_187 rfl ?_
        refine Ev_bipush 7 dX10_cut_189 (by decide) ?_
        refine Ev_iadd dX10_cut_191 ?_
        refine Ev_bipush 8 dX10_cut_192 (by decide) ?_
        refine Ev_idiv dX10_cut_194 (by decide) ?_
        refine Ev_istore dX10_cut_195 (Nat.le_of_ble_eq_true rfl) (okp_of rfl) ?_
        refine Ev_weak ?_ h
        exact And.intro rfl (And.intro trivial (And.intro trivial (And.intro trivial (And.intro trivial (And.intro trivial (And.intro rfl (And.intro trivial (And.intro trivial (trivial)))))))))
  · have h := h.2 q
    refine Ev_iload dX10_cut_93 rfl ?_
    refine Ev_aload_n dX10_cut_95 rfl ?_
    refine Ev_getF 11 4 36 flX10_125 rfl dX10_cut_96 ?_
    refine Ev_iload dX10_cut_99 rfl ?_
    obtain ⟨g, h⟩ := h
    refine Ev_iald g dX10_cut_101 ?_
    refine Ev_aload_n dX10_cut_102 rfl ?_
    refine Ev_getF 11 4 37 flX10_128 rfl dX10_cut_103 ?_
    refine Ev_iload dX10_cut_106 rfl ?_
    obtain ⟨g, h⟩ := h
    refine Ev_iald g dX10_cut_108 ?_
    refine Ev_imul dX10_cut_109 ?_
    refine Ev_iadd dX10_cut_110 ?_
    refine Ev_istore dX10_cut_111 (Nat.le_of_ble_eq_true rfl) (okp_of rfl) ?_
    refine Ev_aload_n dX10_cut_113 rfl ?_
    refine Ev_getF 11 4 36 flX10_125 rfl dX10_cut_114 ?_
    refine Ev_iload dX10_cut_117 rfl ?_
    obtain ⟨g, h⟩ := h
    refine Ev_iald g dX10_cut_119 ?_
    refine Ev_iconst 4 dX10_cut_120 (by decide) ?_
    refine Ev_icmp_le 136 dX10_cut_121 (by decide) (fun q => ?_) (fun q => ?_)
    · have h := h.1 q
      exact h
    · have h := h.2 q
      refine Ev_iload dX10_cut_124 rfl ?_
      refine Ev_aload_n dX10_cut_126 rfl ?_
      refine Ev_getF 11 4 37 flX10_128 rfl dX10_cut_127 ?_
      refine Ev_iload dX10_cut_130 rfl ?_
      obtain ⟨g, h⟩ := h
      refine Ev_iald g dX10_cut_132 ?_
      refine Ev_iadd dX10_cut_133 ?_
      refine Ev_istore dX10_cut_134 (Nat.le_of_ble_eq_true rfl) (okp_of rfl) ?_
      exact h
set_option maxHeartbeats 4000000 in
set_option maxRecDepth 100000 in
theorem X10_cut_at197_ok {d : Nat} {x6 : Int32} {μ μ' : Mem} {x : Int32} (h : (∃ (y3 : Int32) (μ1 : Mem), X10_goesIn d x6 μ y3 μ1 ∧ ((y3 ≠ 0 → (x = x6 ∧ μ' = μ1)) ∧ (y3 = 0 → X10_cut_at197 d (x6 + 1) μ1 x μ')))) : X10_cut_at197 d x6 μ x μ' := by
  refine Ev_aload_n dX10_cut_197 rfl ?_
  refine Ev_iload dX10_cut_198 rfl ?_
  obtain ⟨y3, μ1, hM2, h⟩ := h
  refine Ev_callV [_] mlX10_439 rfl rfl (Nat.le_of_ble_eq_true rfl) dX10_cut_200 hM2 ?_
  refine Ev_if_ne 212 dX10_cut_203 (by decide) (fun q => ?_) (fun q => ?_)
  · have h := h.1 q
    refine Ev_iload dX10_cut_212 rfl ?_
    obtain ⟨rfl, rfl⟩ := h
    exact R_i rfl dX10_cut_214 rfl
  · have h := h.2 q
    refine Ev_iinc (x6 + 1) dX10_cut_206 rfl rfl (okp_of rfl) ?_
    refine Ev_goto 197 dX10_cut_209 (by decide) ?_
    exact h
set_option maxHeartbeats 4000000 in
set_option maxRecDepth 100000 in
theorem X10_cut_at136_ok {d : Nat} {x5 : Int32} {x6 : Int32} {x7 : Int32} {x8 : Int32} {μ μ' : Mem} {x : Int32} (h : vp_in x8 4 ∧ (((μ.1 37 x8.toNatClampNeg) ≤ x6 → X10_cut_at157 d x5 x6 x7 x8 μ x μ') ∧ (¬ (μ.1 37 x8.toNatClampNeg) ≤ x6 → vp_in x8 4 ∧ X10_cut_at157 d x5 (μ.1 37 x8.toNatClampNeg) x7 x8 μ x μ'))) : X10_cut_at136 d x5 x6 x7 x8 μ x μ' := by
  refine Ev_aload_n dX10_cut_136 rfl ?_
  refine Ev_getF 11 4 37 flX10_128 rfl dX10_cut_137 ?_
  refine Ev_iload dX10_cut_140 rfl ?_
  obtain ⟨g, h⟩ := h
  refine Ev_iald g dX10_cut_142 ?_
  refine Ev_iload dX10_cut_143 rfl ?_
  refine Ev_icmp_le 157 dX10_cut_145 (by decide) (fun q => ?_) (fun q => ?_)
  · have h := h.1 q
    exact h
  · have h := h.2 q
    refine Ev_aload_n dX10_cut_148 rfl ?_
    refine Ev_getF 11 4 37 flX10_128 rfl dX10_cut_149 ?_
    refine Ev_iload dX10_cut_152 rfl ?_
    obtain ⟨g, h⟩ := h
    refine Ev_iald g dX10_cut_154 ?_
    refine Ev_istore dX10_cut_155 (Nat.le_of_ble_eq_true rfl) (okp_of rfl) ?_
    exact h
set_option maxHeartbeats 4000000 in
set_option maxRecDepth 100000 in
theorem X10_cut_at157_ok {d : Nat} {x5 : Int32} {x6 : Int32} {x7 : Int32} {x8 : Int32} {μ μ' : Mem} {x : Int32} (h : X10_cut_at84 d x5 x6 x7 (x8 + 1) μ x μ') : X10_cut_at157 d x5 x6 x7 x8 μ x μ' := by
  refine Ev_iinc (x8 + 1) dX10_cut_157 rfl rfl (okp_of rfl) ?_
  refine Ev_goto 84 dX10_cut_160 (by decide) ?_
  exact h
set_option maxHeartbeats 4000000 in
set_option maxRecDepth 100000 in
theorem X10_cutsUp_ok {d : Nat}  {μ μ' : Mem} (h : (∀ μ1 : Mem, μ1 = sI μ 0 10 0 → X10_cutsUp_at7 d 0 μ1 μ')) : X10_cutsUp (d + 1) μ μ' := by
  refine Me_of [some (vr 10 0 0), none, none, none, none, none, none, none] rfl (Nat.le_of_ble_eq_true rfl) (by decide) ?_
  refine Ev_aload_n dX10_cutsUp_0 rfl ?_
  refine Ev_iconst 0 dX10_cutsUp_1 (by decide) ?_
  refine Ev_putI .int flX10_187 fpX10_10 rfl rfl rfl dX10_cutsUp_2 ?_
  have h := h _ rfl
  refine Ev_iconst 0 dX10_cutsUp_5 (by decide) ?_
  refine Ev_istore_n dX10_cutsUp_6 (Nat.le_of_ble_eq_true rfl) (okp_of rfl) ?_
  exact h
set_option maxHeartbeats 4000000 in
set_option maxRecDepth 100000 in
theorem X10_cutsUp_at7_ok {d : Nat} {x1 : Int32} {μ μ' : Mem} (h : ((400 < (μ.1 0 10) → μ' = μ) ∧ (¬ 400 < (μ.1 0 10) → (∃ (y3 : Int32) (μ1 : Mem), X10_byteAt d x1 μ y3 μ1 ∧ ((x1 < (μ1.1 0 4) → ((y3 = 9 → X10_cutsUp_at7 d (x1 + 1) μ1 μ') ∧ (¬ y3 = 9 → ((y3 = 10 → X10_cutsUp_at7 d (x1 + 1) μ1 μ') ∧ (¬ y3 = 10 → ((y3 = 13 → X10_cutsUp_at7 d (x1 + 1) μ1 μ') ∧ (¬ y3 = 13 → ((y3 ≠ 32 → (∃ (y6 : Int32) (μ4 : Mem), X10_isLetter d y3 μ1 y6 μ4 ∧ ((y6 = 0 → (∃ (y9 : Int32) (μ7 : Mem), X10_isDigit d y3 μ4 y9 μ7 ∧ ((y9 = 0 → (∃ (y12 : Int32) (μ10 : Mem), X10_byteAt d (x1 + 1) μ7 y12 μ10 ∧ (∃ (y15 : Int32) (μ13 : Mem), X10_sign d x1 y3 y12 μ10 y15 μ13 ∧ X10_cutsUp_at7 d (x1 + y15) μ13 μ'))) ∧ (¬ y9 = 0 → X10_cutsUp_at208 d x1 0 0 μ7 μ')))) ∧ (¬ y6 = 0 → X10_cutsUp_at85 d x1 0 0 μ4 μ')))) ∧ (y3 = 32 → X10_cutsUp_at7 d (x1 + 1) μ1 μ'))))))))) ∧ (¬ x1 < (μ1.1 0 4) → (∃ (μ16 : Mem), X10_token d 0 (μ1.1 0 4) 0 0 μ1 μ16 ∧ μ' = μ16))))))) : X10_cutsUp_at7 d x1 μ μ' := by
  refine Ev_aload_n dX10_cutsUp_7 rfl ?_
  refine Ev_getI flX10_187 rfl dX10_cutsUp_8 ?_
  refine Ev_sipush 400 dX10_cutsUp_11 (by decide) ?_
  refine Ev_icmp_gt 294 dX10_cutsUp_14 (by decide) (fun q => ?_) (fun q => ?_)
  · have h := h.1 q
    subst h
    exact R_v rfl dX10_cutsUp_294
  · have h := h.2 q
    refine Ev_aload_n dX10_cutsUp_17 rfl ?_
    refine Ev_iload_n dX10_cutsUp_18 rfl ?_
    obtain ⟨y3, μ1, hM2, h⟩ := h
    refine Ev_callV [_] mlX10_190 rfl rfl (Nat.le_of_ble_eq_true rfl) dX10_cutsUp_19 hM2 ?_
    refine Ev_istore_n dX10_cutsUp_22 (Nat.le_of_ble_eq_true rfl) (okp_of rfl) ?_
    refine Ev_iload_n dX10_cutsUp_23 rfl ?_
    refine Ev_aload_n dX10_cutsUp_24 rfl ?_
    refine Ev_getI flX10_178 rfl dX10_cutsUp_25 ?_
    refine Ev_icmp_lt 43 dX10_cutsUp_28 (by decide) (fun q => ?_) (fun q => ?_)
    · have h := h.1 q
      refine Ev_iload_n dX10_cutsUp_43 rfl ?_
      refine Ev_bipush 9 dX10_cutsUp_44 (by decide) ?_
      refine Ev_icmp_eq 67 dX10_cutsUp_46 (by decide) (fun q => ?_) (fun q => ?_)
      · have h := h.1 q
        refine Ev_iinc (x1 + 1) dX10_cutsUp_67 rfl rfl (okp_of rfl) ?_
        refine Ev_goto 291 dX10_cutsUp_70 (by decide) ?_
        refine Ev_goto 7 dX10_cutsUp_291 (by decide) ?_
        refine Ev_weak ?_ h
        exact And.intro rfl (And.intro rfl (And.intro trivial (And.intro trivial (And.intro trivial (And.intro trivial (And.intro trivial (And.intro trivial (trivial))))))))
      · have h := h.2 q
        refine Ev_iload_n dX10_cutsUp_49 rfl ?_
        refine Ev_bipush 10 dX10_cutsUp_50 (by decide) ?_
        refine Ev_icmp_eq 67 dX10_cutsUp_52 (by decide) (fun q => ?_) (fun q => ?_)
        · have h := h.1 q
          refine Ev_iinc (x1 + 1) dX10_cutsUp_67 rfl rfl (okp_of rfl) ?_
          refine Ev_goto 291 dX10_cutsUp_70 (by decide) ?_
          refine Ev_goto 7 dX10_cutsUp_291 (by decide) ?_
          refine Ev_weak ?_ h
          exact And.intro rfl (And.intro rfl (And.intro trivial (And.intro trivial (And.intro trivial (And.intro trivial (And.intro trivial (And.intro trivial (trivial))))))))
        · have h := h.2 q
          refine Ev_iload_n dX10_cutsUp_55 rfl ?_
          refine Ev_bipush 13 dX10_cutsUp_56 (by decide) ?_
          refine Ev_icmp_eq 67 dX10_cutsUp_58 (by decide) (fun q => ?_) (fun q => ?_)
          · have h := h.1 q
            refine Ev_iinc (x1 + 1) dX10_cutsUp_67 rfl rfl (okp_of rfl) ?_
            refine Ev_goto 291 dX10_cutsUp_70 (by decide) ?_
            refine Ev_goto 7 dX10_cutsUp_291 (by decide) ?_
            refine Ev_weak ?_ h
            exact And.intro rfl (And.intro rfl (And.intro trivial (And.intro trivial (And.intro trivial (And.intro trivial (And.intro trivial (And.intro trivial (trivial))))))))
          · have h := h.2 q
            refine Ev_iload_n dX10_cutsUp_61 rfl ?_
            refine Ev_bipush 32 dX10_cutsUp_62 (by decide) ?_
            refine Ev_icmp_ne 73 dX10_cutsUp_64 (by decide) (fun q => ?_) (fun q => ?_)
            · have h := h.1 q
              refine Ev_iload_n dX10_cutsUp_73 rfl ?_
              obtain ⟨y6, μ4, hM5, h⟩ := h
              refine Ev_callS [_] mlX10_198 rfl rfl (Nat.le_of_ble_eq_true rfl) dX10_cutsUp_74 hM5 ?_
              refine Ev_if_eq 196 dX10_cutsUp_77 (by decide) (fun q => ?_) (fun q => ?_)
              · have h := h.1 q
                refine Ev_iload_n dX10_cutsUp_196 rfl ?_
                obtain ⟨y9, μ7, hM8, h⟩ := h
                refine Ev_callS [_] mlX10_202 rfl rfl (Nat.le_of_ble_eq_true rfl) dX10_cutsUp_197 hM8 ?_
                refine Ev_if_eq 275 dX10_cutsUp_200 (by decide) (fun q => ?_) (fun q => ?_)
                · have h := h.1 q
                  refine Ev_iload_n dX10_cutsUp_275 rfl ?_
                  refine Ev_aload_n dX10_cutsUp_276 rfl ?_
                  refine Ev_iload_n dX10_cutsUp_277 rfl ?_
                  refine Ev_iload_n dX10_cutsUp_278 rfl ?_
                  refine Ev_aload_n dX10_cutsUp_279 rfl ?_
                  refine Ev_iload_n dX10_cutsUp_280 rfl ?_
                  refine Ev_iconst 1 dX10_cutsUp_281 (by decide) ?_
                  refine Ev_iadd dX10_cutsUp_282 ?_
                  obtain ⟨y12, μ10, hM11, h⟩ := h
                  refine Ev_callV [_] mlX10_190 rfl rfl (Nat.le_of_ble_eq_true rfl) dX10_cutsUp_283 hM11 ?_
                  obtain ⟨y15, μ13, hM14, h⟩ := h
                  refine Ev_callV [_, _, _] mlX10_205 rfl rfl (Nat.le_of_ble_eq_true rfl) dX10_cutsUp_286 hM14 ?_
                  refine Ev_iadd dX10_cutsUp_289 ?_
                  refine Ev_istore_n dX10_cutsUp_290 (Nat.le_of_ble_eq_true rfl) (okp_of rfl) ?_
                  refine Ev_goto 7 dX10_cutsUp_291 (by decide) ?_
                  refine Ev_weak ?_ h
                  exact And.intro rfl (And.intro rfl (And.intro trivial (And.intro trivial (And.intro trivial (And.intro trivial (And.intro trivial (And.intro trivial (trivial))))))))
                · have h := h.2 q
                  refine Ev_iconst 0 dX10_cutsUp_203 (by decide) ?_
                  refine Ev_istore_n dX10_cutsUp_204 (Nat.le_of_ble_eq_true rfl) (okp_of rfl) ?_
                  refine Ev_iconst 0 dX10_cutsUp_205 (by decide) ?_
                  refine Ev_istore dX10_cutsUp_206 (Nat.le_of_ble_eq_true rfl) (okp_of rfl) ?_
                  refine Ev_weak ?_ h
                  exact And.intro rfl (And.intro rfl (And.intro trivial (And.intro rfl (And.intro rfl (And.intro trivial (And.intro trivial (And.intro trivial (trivial))))))))
              · have h := h.2 q
                refine Ev_iconst 0 dX10_cutsUp_80 (by decide) ?_
                refine Ev_istore_n dX10_cutsUp_81 (Nat.le_of_ble_eq_true rfl) (okp_of rfl) ?_
                refine Ev_lconst 0 dX10_cutsUp_82 (by decide) ?_
                refine Ev_lstore dX10_cutsUp_83 (Nat.le_of_ble_eq_true rfl) (okp_of rfl) ?_
                refine Ev_weak ?_ h
                exact And.intro rfl (And.intro rfl (And.intro trivial (And.intro rfl (And.intro rfl (And.intro trivial (And.intro trivial (And.intro trivial (trivial))))))))
            · have h := h.2 q
              refine Ev_iinc (x1 + 1) dX10_cutsUp_67 rfl rfl (okp_of rfl) ?_
              refine Ev_goto 291 dX10_cutsUp_70 (by decide) ?_
              refine Ev_goto 7 dX10_cutsUp_291 (by decide) ?_
              refine Ev_weak ?_ h
              exact And.intro rfl (And.intro rfl (And.intro trivial (And.intro trivial (And.intro trivial (And.intro trivial (And.intro trivial (And.intro trivial (trivial))))))))
    · have h := h.2 q
      refine Ev_aload_n dX10_cutsUp_31 rfl ?_
      refine Ev_iconst 0 dX10_cutsUp_32 (by decide) ?_
      refine Ev_aload_n dX10_cutsUp_33 rfl ?_
      refine Ev_getI flX10_178 rfl dX10_cutsUp_34 ?_
      refine Ev_iconst 0 dX10_cutsUp_37 (by decide) ?_
      refine Ev_lconst 0 dX10_cutsUp_38 (by decide) ?_
      obtain ⟨μ16, hM17, h⟩ := h
      refine Ev_callV [_, _, _, _] mlX10_194 rfl rfl (Nat.le_of_ble_eq_true rfl) dX10_cutsUp_39 hM17 ?_
      subst h
      exact R_v rfl dX10_cutsUp_42
set_option maxHeartbeats 4000000 in
set_option maxRecDepth 100000 in
theorem X10_cutsUp_at208_ok {d : Nat} {x1 : Int32} {x3 : Int32} {x4 : Int32} {μ μ' : Mem} (h : (∃ (y3 : Int32) (μ1 : Mem), X10_byteAt d (x1 + x3) μ y3 μ1 ∧ (∃ (y6 : Int32) (μ4 : Mem), X10_isDigit d y3 μ1 y6 μ4 ∧ ((y6 = 0 → ((x3 ≤ 4 → (∃ (μ7 : Mem), X10_token d 2 x1 x4 0 μ4 μ7 ∧ X10_cutsUp_at7 d (x1 + x3) μ7 μ')) ∧ (¬ x3 ≤ 4 → (∃ (μ9 : Mem), X10_token d 3 x1 x4 0 μ4 μ9 ∧ X10_cutsUp_at7 d (x1 + x3) μ9 μ')))) ∧ (¬ y6 = 0 → ((4 ≤ x3 → X10_cutsUp_at208 d x1 (x3 + 1) x4 μ4 μ') ∧ (¬ 4 ≤ x3 → (∃ (y13 : Int32) (μ11 : Mem), X10_byteAt d (x1 + x3) μ4 y13 μ11 ∧ X10_cutsUp_at208 d x1 (x3 + 1) (((10 * x4) + y13) - 48) μ11 μ')))))))) : X10_cutsUp_at208 d x1 x3 x4 μ μ' := by
  refine Ev_aload_n dX10_cutsUp_208 rfl ?_
  refine Ev_iload_n dX10_cutsUp_209 rfl ?_
  refine Ev_iload_n dX10_cutsUp_210 rfl ?_
  refine Ev_iadd dX10_cutsUp_211 ?_
  obtain ⟨y3, μ1, hM2, h⟩ := h
  refine Ev_callV [_] mlX10_190 rfl rfl (Nat.le_of_ble_eq_true rfl) dX10_cutsUp_212 hM2 ?_
  obtain ⟨y6, μ4, hM5, h⟩ := h
  refine Ev_callS [_] mlX10_202 rfl rfl (Nat.le_of_ble_eq_true rfl) dX10_cutsUp_215 hM5 ?_
  refine Ev_if_eq 250 dX10_cutsUp_218 (by decide) (fun q => ?_) (fun q => ?_)
  · have h := h.1 q
    refine Ev_aload_n dX10_cutsUp_250 rfl ?_
    refine Ev_iload_n dX10_cutsUp_251 rfl ?_
    refine Ev_iconst 4 dX10_cutsUp_252 (by decide) ?_
    refine Ev_icmp_le 260 dX10_cutsUp_253 (by decide) (fun q => ?_) (fun q => ?_)
    · have h := h.1 q
      refine Ev_iconst 2 dX10_cutsUp_260 (by decide) ?_
      refine Ev_iload_n dX10_cutsUp_261 rfl ?_
      refine Ev_iload dX10_cutsUp_262 rfl ?_
      refine Ev_lconst 0 dX10_cutsUp_264 (by decide) ?_
      obtain ⟨μ7, hM8, h⟩ := h
      refine Ev_callV [_, _, _, _] mlX10_194 rfl rfl (Nat.le_of_ble_eq_true rfl) dX10_cutsUp_265 hM8 ?_
      refine Ev_iload_n dX10_cutsUp_268 rfl ?_
      refine Ev_iload_n dX10_cutsUp_269 rfl ?_
      refine Ev_iadd dX10_cutsUp_270 ?_
      refine Ev_istore_n dX10_cutsUp_271 (Nat.le_of_ble_eq_true rfl) (okp_of rfl) ?_
      refine Ev_goto 291 dX10_cutsUp_272 (by decide) ?_
      refine Ev_goto 7 dX10_cutsUp_291 (by decide) ?_
      refine Ev_weak ?_ h
      exact And.intro rfl (And.intro rfl (And.intro trivial (And.intro trivial (And.intro trivial (And.intro trivial (And.intro trivial (And.intro trivial (trivial))))))))
    · have h := h.2 q
      refine Ev_iconst 3 dX10_cutsUp_256 (by decide) ?_
      refine Ev_goto 261 dX10_cutsUp_257 (by decide) ?_
      refine Ev_iload_n dX10_cutsUp_261 rfl ?_
      refine Ev_iload dX10_cutsUp_262 rfl ?_
      refine Ev_lconst 0 dX10_cutsUp_264 (by decide) ?_
      obtain ⟨μ9, hM10, h⟩ := h
      refine Ev_callV [_, _, _, _] mlX10_194 rfl rfl (Nat.le_of_ble_eq_true rfl) dX10_cutsUp_265 hM10 ?_
      refine Ev_iload_n dX10_cutsUp_268 rfl ?_
      refine Ev_iload_n dX10_cutsUp_269 rfl ?_
      refine Ev_iadd dX10_cutsUp_270 ?_
      refine Ev_istore_n dX10_cutsUp_271 (Nat.le_of_ble_eq_true rfl) (okp_of rfl) ?_
      refine Ev_goto 291 dX10_cutsUp_272 (by decide) ?_
      refine Ev_goto 7 dX10_cutsUp_291 (by decide) ?_
      refine Ev_weak ?_ h
      exact And.intro rfl (And.intro rfl (And.intro trivial (And.intro trivial (And.intro trivial (And.intro trivial (And.intro trivial (And.intro trivial (trivial))))))))
  · have h := h.2 q
    refine Ev_iload_n dX10_cutsUp_221 rfl ?_
    refine Ev_iconst 4 dX10_cutsUp_222 (by decide) ?_
    refine Ev_icmp_ge 244 dX10_cutsUp_223 (by decide) (fun q => ?_) (fun q => ?_)
    · have h := h.1 q
      refine Ev_iinc (x3 + 1) dX10_cutsUp_244 rfl rfl (okp_of rfl) ?_
      refine Ev_goto 208 dX10_cutsUp_247 (by decide) ?_
      exact h
    · have h := h.2 q
      refine Ev_bipush 10 dX10_cutsUp_226 (by decide) ?_
      refine Ev_iload dX10_cutsUp_228 rfl ?_
      refine Ev_imul dX10_cutsUp_230 ?_
      refine Ev_aload_n dX10_cutsUp_231 rfl ?_
      refine Ev_iload_n dX10_cutsUp_232 rfl ?_
      refine Ev_iload_n dX10_cutsUp_233 rfl ?_
      refine Ev_iadd dX10_cutsUp_234 ?_
      obtain ⟨y13, μ11, hM12, h⟩ := h
      refine Ev_callV [_] mlX10_190 rfl rfl (Nat.le_of_ble_eq_true rfl) dX10_cutsUp_235 hM12 ?_
      refine Ev_iadd dX10_cutsUp_238 ?_
      refine Ev_bipush 48 dX10_cutsUp_239 (by decide) ?_
      refine Ev_isub dX10_cutsUp_241 ?_
      refine Ev_istore dX10_cutsUp_242 (Nat.le_of_ble_eq_true rfl) (okp_of rfl) ?_
      refine Ev_iinc (x3 + 1) dX10_cutsUp_244 rfl rfl (okp_of rfl) ?_
      refine Ev_goto 208 dX10_cutsUp_247 (by decide) ?_
      exact h
set_option maxHeartbeats 4000000 in
set_option maxRecDepth 100000 in
theorem X10_cutsUp_at85_ok {d : Nat} {x1 : Int32} {x3 : Int32} {x4 : Int64} {μ μ' : Mem} (h : (∃ (y3 : Int32) (μ1 : Mem), X10_byteAt d (x1 + x3) μ y3 μ1 ∧ (∃ (y6 : Int32) (μ4 : Mem), X10_isLetter d y3 μ1 y6 μ4 ∧ ((y6 = 0 → ((x3 ≤ 8 → ((7 < x3 → (∃ (μ7 : Mem), X10_token d 1 x1 0 x4 μ4 μ7 ∧ X10_cutsUp_at7 d (x1 + x3) μ7 μ')) ∧ (¬ 7 < x3 → X10_cutsUp_at146 d x1 x3 x4 1 0 μ4 μ'))) ∧ (¬ x3 ≤ 8 → ((7 < x3 → (∃ (μ9 : Mem), X10_token d 3 x1 0 x4 μ4 μ9 ∧ X10_cutsUp_at7 d (x1 + x3) μ9 μ')) ∧ (¬ 7 < x3 → X10_cutsUp_at146 d x1 x3 x4 3 0 μ4 μ'))))) ∧ (¬ y6 = 0 → ((8 ≤ x3 → X10_cutsUp_at85 d x1 (x3 + 1) x4 μ4 μ') ∧ (¬ 8 ≤ x3 → (∃ (y13 : Int32) (μ11 : Mem), X10_byteAt d (x1 + x3) μ4 y13 μ11 ∧ (∃ (y16 : Int64) (μ14 : Mem), X10_appends d x4 y13 μ11 y16 μ14 ∧ X10_cutsUp_at85 d x1 (x3 + 1) y16 μ14 μ'))))))))) : X10_cutsUp_at85 d x1 x3 x4 μ μ' := by
  refine Ev_aload_n dX10_cutsUp_85 rfl ?_
  refine Ev_iload_n dX10_cutsUp_86 rfl ?_
  refine Ev_iload_n dX10_cutsUp_87 rfl ?_
  refine Ev_iadd dX10_cutsUp_88 ?_
  obtain ⟨y3, μ1, hM2, h⟩ := h
  refine Ev_callV [_] mlX10_190 rfl rfl (Nat.le_of_ble_eq_true rfl) dX10_cutsUp_89 hM2 ?_
  obtain ⟨y6, μ4, hM5, h⟩ := h
  refine Ev_callS [_] mlX10_198 rfl rfl (Nat.le_of_ble_eq_true rfl) dX10_cutsUp_92 hM5 ?_
  refine Ev_if_eq 124 dX10_cutsUp_95 (by decide) (fun q => ?_) (fun q => ?_)
  · have h := h.1 q
    refine Ev_iload_n dX10_cutsUp_124 rfl ?_
    refine Ev_bipush 8 dX10_cutsUp_125 (by decide) ?_
    refine Ev_icmp_le 134 dX10_cutsUp_127 (by decide) (fun q => ?_) (fun q => ?_)
    · have h := h.1 q
      refine Ev_iconst 1 dX10_cutsUp_134 (by decide) ?_
      refine Ev_istore dX10_cutsUp_135 (Nat.le_of_ble_eq_true rfl) (okp_of rfl) ?_
      refine Ev_iload_n dX10_cutsUp_137 rfl ?_
      refine Ev_bipush 7 dX10_cutsUp_138 (by decide) ?_
      refine Ev_icmp_gt 179 dX10_cutsUp_140 (by decide) (fun q => ?_) (fun q => ?_)
      · have h := h.1 q
        refine Ev_aload_n dX10_cutsUp_179 rfl ?_
        refine Ev_iload dX10_cutsUp_180 rfl ?_
        refine Ev_iload_n dX10_cutsUp_182 rfl ?_
        refine Ev_iconst 0 dX10_cutsUp_183 (by decide) ?_
        refine Ev_lload dX10_cutsUp_184 rfl ?_
        obtain ⟨μ7, hM8, h⟩ := h
        refine Ev_callV [_, _, _, _] mlX10_194 rfl rfl (Nat.le_of_ble_eq_true rfl) dX10_cutsUp_186 hM8 ?_
        refine Ev_iload_n dX10_cutsUp_189 rfl ?_
        refine Ev_iload_n dX10_cutsUp_190 rfl ?_
        refine Ev_iadd dX10_cutsUp_191 ?_
        refine Ev_istore_n dX10_cutsUp_192 (Nat.le_of_ble_eq_true rfl) (okp_of rfl) ?_
        refine Ev_goto 291 dX10_cutsUp_193 (by decide) ?_
        refine Ev_goto 7 dX10_cutsUp_291 (by decide) ?_
        refine Ev_weak ?_ h
        exact And.intro rfl (And.intro rfl (And.intro trivial (And.intro trivial (And.intro trivial (And.intro trivial (And.intro trivial (And.intro trivial (trivial))))))))
      · have h := h.2 q
        refine Ev_iconst 0 dX10_cutsUp_143 (by decide) ?_
        refine Ev_istore dX10_cutsUp_144 (Nat.le_of_ble_eq_true rfl) (okp_of rfl) ?_
        exact h
    · have h := h.2 q
      refine Ev_iconst 3 dX10_cutsUp_130 (by decide) ?_
      refine Ev_goto 135 dX10_cutsUp_131 (by decide) ?_
      refine Ev_istore dX10_cutsUp_135 (Nat.le_of_ble_eq_true rfl) (okp_of rfl) ?_
      refine Ev_iload_n dX10_cutsUp_137 rfl ?_
      refine Ev_bipush 7 dX10_cutsUp_138 (by decide) ?_
      refine Ev_icmp_gt 179 dX10_cutsUp_140 (by decide) (fun q => ?_) (fun q => ?_)
      · have h := h.1 q
        refine Ev_aload_n dX10_cutsUp_179 rfl ?_
        refine Ev_iload dX10_cutsUp_180 rfl ?_
        refine Ev_iload_n dX10_cutsUp_182 rfl ?_
        refine Ev_iconst 0 dX10_cutsUp_183 (by decide) ?_
        refine Ev_lload dX10_cutsUp_184 rfl ?_
        obtain ⟨μ9, hM10, h⟩ := h
        refine Ev_callV [_, _, _, _] mlX10_194 rfl rfl (Nat.le_of_ble_eq_true rfl) dX10_cutsUp_186 hM10 ?_
        refine Ev_iload_n dX10_cutsUp_189 rfl ?_
        refine Ev_iload_n dX10_cutsUp_190 rfl ?_
        refine Ev_iadd dX10_cutsUp_191 ?_
        refine Ev_istore_n dX10_cutsUp_192 (Nat.le_of_ble_eq_true rfl) (okp_of rfl) ?_
        refine Ev_goto 291 dX10_cutsUp_193 (by decide) ?_
        refine Ev_goto 7 dX10_cutsUp_291 (by decide) ?_
        refine Ev_weak ?_ h
        exact And.intro rfl (And.intro rfl (And.intro trivial (And.intro trivial (And.intro trivial (And.intro trivial (And.intro trivial (And.intro trivial (trivial))))))))
      · have h := h.2 q
        refine Ev_iconst 0 dX10_cutsUp_143 (by decide) ?_
        refine Ev_istore dX10_cutsUp_144 (Nat.le_of_ble_eq_true rfl) (okp_of rfl) ?_
        exact h
  · have h := h.2 q
    refine Ev_iload_n dX10_cutsUp_98 rfl ?_
    refine Ev_bipush 8 dX10_cutsUp_99 (by decide) ?_
    refine Ev_icmp_ge 118 dX10_cutsUp_101 (by decide) (fun q => ?_) (fun q => ?_)
    · have h := h.1 q
      refine Ev_iinc (x3 + 1) dX10_cutsUp_118 rfl rfl (okp_of rfl) ?_
      refine Ev_goto 85 dX10_cutsUp_121 (by decide) ?_
      exact h
    · have h := h.2 q
      refine Ev_lload dX10_cutsUp_104 rfl ?_
      refine Ev_aload_n dX10_cutsUp_106 rfl ?_
      refine Ev_iload_n dX10_cutsUp_107 rfl ?_
      refine Ev_iload_n dX10_cutsUp_108 rfl ?_
      refine Ev_iadd dX10_cutsUp_109 ?_
      obtain ⟨y13, μ11, hM12, h⟩ := h
      refine Ev_callV [_] mlX10_190 rfl rfl (Nat.le_of_ble_eq_true rfl) dX10_cutsUp_110 hM12 ?_
      obtain ⟨y16, μ14, hM15, h⟩ := h
      refine Ev_callS [_, _] mlX10_183 rfl rfl (Nat.le_of_ble_eq_true rfl) dX10_cutsUp_113 hM15 ?_
      refine Ev_lstore dX10_cutsUp_116 (Nat.le_of_ble_eq_true rfl) (okp_of rfl) ?_
      refine Ev_iinc (x3 + 1) dX10_cutsUp_118 rfl rfl (okp_of rfl) ?_
      refine Ev_goto 85 dX10_cutsUp_121 (by decide) ?_
      exact h
set_option maxHeartbeats 4000000 in
set_option maxRecDepth 100000 in
theorem X10_cutsUp_at146_ok {d : Nat} {x1 : Int32} {x3 : Int32} {x4 : Int64} {x6 : Int32} {x7 : Int32} {μ μ' : Mem} (h : ((21 ≤ x7 → (∃ (μ1 : Mem), X10_token d x6 x1 0 x4 μ μ1 ∧ X10_cutsUp_at7 d (x1 + x3) μ1 μ')) ∧ (¬ 21 ≤ x7 → vp_in x7 21 ∧ (((lg_cmp (μ.2.1 7 x7.toNatClampNeg) x4) ≠ 0 → X10_cutsUp_at146 d x1 x3 x4 x6 (x7 + 1) μ μ') ∧ ((lg_cmp (μ.2.1 7 x7.toNatClampNeg) x4) = 0 → X10_cutsUp_at146 d x1 x3 x4 (20 + x7) (x7 + 1) μ μ'))))) : X10_cutsUp_at146 d x1 x3 x4 x6 x7 μ μ' := by
  refine Ev_iload dX10_cutsUp_146 rfl ?_
  refine Ev_bipush 21 dX10_cutsUp_148 (by decide) ?_
  refine Ev_icmp_ge 179 dX10_cutsUp_150 (by decide) (fun q => ?_) (fun q => ?_)
  · have h := h.1 q
    refine Ev_aload_n dX10_cutsUp_179 rfl ?_
    refine Ev_iload dX10_cutsUp_180 rfl ?_
    refine Ev_iload_n dX10_cutsUp_182 rfl ?_
    refine Ev_iconst 0 dX10_cutsUp_183 (by decide) ?_
    refine Ev_lload dX10_cutsUp_184 rfl ?_
    obtain ⟨μ1, hM2, h⟩ := h
    refine Ev_callV [_, _, _, _] mlX10_194 rfl rfl (Nat.le_of_ble_eq_true rfl) dX10_cutsUp_186 hM2 ?_
    refine Ev_iload_n dX10_cutsUp_189 rfl ?_
    refine Ev_iload_n dX10_cutsUp_190 rfl ?_
    refine Ev_iadd dX10_cutsUp_191 ?_
    refine Ev_istore_n dX10_cutsUp_192 (Nat.le_of_ble_eq_true rfl) (okp_of rfl) ?_
    refine Ev_goto 291 dX10_cutsUp_193 (by decide) ?_
    refine Ev_goto 7 dX10_cutsUp_291 (by decide) ?_
    refine Ev_weak ?_ h
    exact And.intro rfl (And.intro rfl (And.intro trivial (And.intro trivial (And.intro trivial (And.intro trivial (And.intro trivial (And.intro trivial (trivial))))))))
  · have h := h.2 q
    refine Ev_aload_n dX10_cutsUp_153 rfl ?_
    refine Ev_getF 13 21 7 flX10_34 rfl dX10_cutsUp_154 ?_
    refine Ev_iload dX10_cutsUp_157 rfl ?_
    obtain ⟨g, h⟩ := h
    refine Ev_lald g dX10_cutsUp_159 ?_
    refine Ev_lload dX10_cutsUp_160 rfl ?_
    refine Ev_lcmp dX10_cutsUp_162 ?_
    refine Ev_if_ne 173 dX10_cutsUp_163 (by decide) (fun q => ?_) (fun q => ?_)
    · have h := h.1 q
      refine Ev_iinc (x7 + 1) dX10_cutsUp_173 rfl rfl (okp_of rfl) ?_
      refine Ev_goto 146 dX10_cutsUp_176 (by decide) ?_
      exact h
    · have h := h.2 q
      refine Ev_bipush 20 dX10_cutsUp_166 (by decide) ?_
      refine Ev_iload dX10_cutsUp_168 rfl ?_
      refine Ev_iadd dX10_cutsUp_170 ?_
      refine Ev_istore dX10_cutsUp_171 (Nat.le_of_ble_eq_true rfl) (okp_of rfl) ?_
      refine Ev_iinc (x7 + 1) dX10_cutsUp_173 rfl rfl (okp_of rfl) ?_
      refine Ev_goto 146 dX10_cutsUp_176 (by decide) ?_
      exact h
set_option maxHeartbeats 4000000 in
set_option maxRecDepth 100000 in
theorem X10_dayGoes_ok {d : Nat}  {μ μ' : Mem} (h : X10_dayGoes_at2 d 0 μ μ') : X10_dayGoes (d + 1) μ μ' := by
  refine Me_of [some (vr 10 0 0), none, none] rfl (Nat.le_of_ble_eq_true rfl) (by decide) ?_
  refine Ev_iconst 0 dX10_dayGoes_0 (by decide) ?_
  refine Ev_istore_n dX10_dayGoes_1 (Nat.le_of_ble_eq_true rfl) (okp_of rfl) ?_
  exact h
set_option maxHeartbeats 4000000 in
set_option maxRecDepth 100000 in
theorem X10_dayGoes_at2_ok {d : Nat} {x1 : Int32} {μ μ' : Mem} (h : vp_in (μ.1 0 18) 2 ∧ (((μ.1 15 ((μ.1 0 18).toNatClampNeg)) ≤ x1 → X10_dayGoes_at116 d 0 μ μ') ∧ (¬ (μ.1 15 ((μ.1 0 18).toNatClampNeg)) ≤ x1 → vp_in (52 + x1) 92 ∧ (((μ.1 34 ((52 + x1).toNatClampNeg)) ≠ 0 → (∃ (y3 : Int32) (μ1 : Mem), X10_lotOf d ((8 * (μ.1 34 89)) + x1) μ y3 μ1 ∧ vp_in (μ1.1 0 18) 2 ∧ (((μ1.1 19 ((μ1.1 0 18).toNatClampNeg)) ≤ y3 → vp_in (52 + x1) 92 ∧ vp_in (56 + x1) 92 ∧ vp_in (60 + x1) 92 ∧ vp_in (64 + x1) 92 ∧ (∃ (y6 : Int32) (μ4 : Mem), X10_falls d x1 (μ1.1 34 ((52 + x1).toNatClampNeg)) (μ1.1 34 ((56 + x1).toNatClampNeg)) ((μ1.1 34 ((60 + x1).toNatClampNeg)) + 0) (μ1.1 34 ((64 + x1).toNatClampNeg)) μ1 y6 μ4 ∧ X10_dayGoes_at2 d (x1 + 1) μ4 μ')) ∧ (¬ (μ1.1 19 ((μ1.1 0 18).toNatClampNeg)) ≤ y3 → vp_in (52 + x1) 92 ∧ vp_in (56 + x1) 92 ∧ vp_in (60 + x1) 92 ∧ vp_in (64 + x1) 92 ∧ (∃ (y9 : Int32) (μ7 : Mem), X10_falls d x1 (μ1.1 34 ((52 + x1).toNatClampNeg)) (μ1.1 34 ((56 + x1).toNatClampNeg)) ((μ1.1 34 ((60 + x1).toNatClampNeg)) + 1) (μ1.1 34 ((64 + x1).toNatClampNeg)) μ1 y9 μ7 ∧ X10_dayGoes_at2 d (x1 + 1) μ7 μ'))))) ∧ ((μ.1 34 ((52 + x1).toNatClampNeg)) = 0 → X10_dayGoes_at2 d (x1 + 1) μ μ'))))) : X10_dayGoes_at2 d x1 μ μ' := by
  refine Ev_iload_n dX10_dayGoes_2 rfl ?_
  refine Ev_aload_n dX10_dayGoes_3 rfl ?_
  refine Ev_getF 11 2 15 flX10_61 rfl dX10_dayGoes_4 ?_
  refine Ev_aload_n dX10_dayGoes_7 rfl ?_
  refine Ev_getI flX10_239 rfl dX10_dayGoes_8 ?_
  obtain ⟨g, h⟩ := h
  refine Ev_iald g dX10_dayGoes_11 ?_
  refine Ev_icmp_ge 114 dX10_dayGoes_12 (by decide) (fun q => ?_) (fun q => ?_)
  · have h := h.1 q
    refine Ev_iconst 0 dX10_dayGoes_114 (by decide) ?_
    refine Ev_istore_n dX10_dayGoes_115 (Nat.le_of_ble_eq_true rfl) (okp_of rfl) ?_
    exact h
  · have h := h.2 q
    refine Ev_aload_n dX10_dayGoes_15 rfl ?_
    refine Ev_getF 11 92 34 flX10_119 rfl dX10_dayGoes_16 ?_
    refine Ev_bipush 52 dX10_dayGoes_19 (by decide) ?_
    refine Ev_iload_n dX10_dayGoes_21 rfl ?_
    refine Ev_iadd dX10_dayGoes_22 ?_
    obtain ⟨g, h⟩ := h
    refine Ev_iald g dX10_dayGoes_23 ?_
    refine Ev_if_ne 30 dX10_dayGoes_24 (by decide) (fun q => ?_) (fun q => ?_)
    · have h := h.1 q
      refine Ev_aload_n dX10_dayGoes_30 rfl ?_
      refine Ev_bipush 8 dX10_dayGoes_31 (by decide) ?_
      refine Ev_aload_n dX10_dayGoes_33 rfl ?_
      refine Ev_getF 11 92 34 flX10_119 rfl dX10_dayGoes_34 ?_
      refine Ev_bipush 89 dX10_dayGoes_37 (by decide) ?_
      refine Ev_iald (n := 92) (vp_lit (by decide)) dX10_dayGoes_39 ?_
      refine Ev_imul dX10_dayGoes_40 ?_
      refine Ev_iload_n dX10_dayGoes_41 rfl ?_
      refine Ev_iadd dX10_dayGoes_42 ?_
      obtain ⟨y3, μ1, hM2, h⟩ := h
      refine Ev_callV [_] mlX10_359 rfl rfl (Nat.le_of_ble_eq_true rfl) dX10_dayGoes_43 hM2 ?_
      refine Ev_aload_n dX10_dayGoes_46 rfl ?_
      refine Ev_getF 11 2 19 flX10_73 rfl dX10_dayGoes_47 ?_
      refine Ev_aload_n dX10_dayGoes_50 rfl ?_
      refine Ev_getI flX10_239 rfl dX10_dayGoes_51 ?_
      obtain ⟨g, h⟩ := h
      refine Ev_iald g dX10_dayGoes_54 ?_
      refine Ev_icmp_ge 62 dX10_dayGoes_55 (by decide) (fun q => ?_) (fun q => ?_)
      · have h := h.1 q
        refine Ev_iconst 0 dX10_dayGoes_62 (by decide) ?_
        refine Ev_istore_n dX10_dayGoes_63 (Nat.le_of_ble_eq_true rfl) (okp_of rfl) ?_
        refine Ev_aload_n dX10_dayGoes_64 rfl ?_
        refine Ev_iload_n dX10_dayGoes_65 rfl ?_
        refine Ev_aload_n dX10_dayGoes_66 rfl ?_
        refine Ev_getF 11 92 34 flX10_119 rfl dX10_dayGoes_67 ?_
        refine Ev_bipush 52 dX10_dayGoes_70 (by decide) ?_
        refine Ev_iload_n dX10_dayGoes_72 rfl ?_
        refine Ev_iadd dX10_dayGoes_73 ?_
        obtain ⟨g, h⟩ := h
        refine Ev_iald g dX10_dayGoes_74 ?_
        refine Ev_aload_n dX10_dayGoes_75 rfl ?_
        refine Ev_getF 11 92 34 flX10_119 rfl dX10_dayGoes_76 ?_
        refine Ev_bipush 56 dX10_dayGoes_79 (by decide) ?_
        refine Ev_iload_n dX10_dayGoes_81 rfl ?_
        refine Ev_iadd dX10_dayGoes_82 ?_
        obtain ⟨g, h⟩ := h
        refine Ev_iald g dX10_dayGoes_83 ?_
        refine Ev_aload_n dX10_dayGoes_84 rfl ?_
        refine Ev_getF 11 92 34 flX10_119 rfl dX10_dayGoes_85 ?_
        refine Ev_bipush 60 dX10_dayGoes_88 (by decide) ?_
        refine Ev_iload_n dX10_dayGoes_90 rfl ?_
        refine Ev_iadd dX10_dayGoes_91 ?_
        obtain ⟨g, h⟩ := h
        refine Ev_iald g dX10_dayGoes_92 ?_
        refine Ev_iload_n dX10_dayGoes_93 rfl ?_
        refine Ev_iadd dX10_dayGoes_94 ?_
        refine Ev_aload_n dX10_dayGoes_95 rfl ?_
        refine Ev_getF 11 92 34 flX10_119 rfl dX10_dayGoes_96 ?_
        refine Ev_bipush 64 dX10_dayGoes_99 (by decide) ?_
        refine Ev_iload_n dX10_dayGoes_101 rfl ?_
        refine Ev_iadd dX10_dayGoes_102 ?_
        obtain ⟨g, h⟩ := h
        refine Ev_iald g dX10_dayGoes_103 ?_
        obtain ⟨y6, μ4, hM5, h⟩ := h
        refine Ev_callV [_, _, _, _, _] mlX10_362 rfl rfl (Nat.le_of_ble_eq_true rfl) dX10_dayGoes_104 hM5 ?_
        refine Ev_pop dX10_dayGoes_107 (fun _ z => by cases z) ?_
        refine Ev_iinc (x1 + 1) dX10_dayGoes_108 rfl rfl (okp_of rfl) ?_
        refine Ev_goto 2 dX10_dayGoes_111 (by decide) ?_
        refine Ev_weak ?_ h
        exact And.intro rfl (And.intro rfl (And.intro trivial (trivial)))
      · have h := h.2 q
        refine Ev_iconst 1 dX10_dayGoes_58 (by decide) ?_
        refine Ev_goto 63 dX10_dayGoes_59 (by decide) ?_
        refine Ev_istore_n dX10_dayGoes_63 (Nat.le_of_ble_eq_true rfl) (okp_of rfl) ?_
        refine Ev_aload_n dX10_dayGoes_64 rfl ?_
        refine Ev_iload_n dX10_dayGoes_65 rfl ?_
        refine Ev_aload_n dX10_dayGoes_66 rfl ?_
        refine Ev_getF 11 92 34 flX10_119 rfl dX10_dayGoes_67 ?_
        refine Ev_bipush 52 dX10_dayGoes_70 (by decide) ?_
        refine Ev_iload_n dX10_dayGoes_72 rfl ?_
        refine Ev_iadd dX10_dayGoes_73 ?_
        obtain ⟨g, h⟩ := h
        refine Ev_iald g dX10_dayGoes_74 ?_
        refine Ev_aload_n dX10_dayGoes_75 rfl ?_
        refine Ev_getF 11 92 34 flX10_119 rfl dX10_dayGoes_76 ?_
        refine Ev_bipush 56 dX10_dayGoes_79 (by decide) ?_
        refine Ev_iload_n dX10_dayGoes_81 rfl ?_
        refine Ev_iadd dX10_dayGoes_82 ?_
        obtain ⟨g, h⟩ := h
        refine Ev_iald g dX10_dayGoes_83 ?_
        refine Ev_aload_n dX10_dayGoes_84 rfl ?_
        refine Ev_getF 11 92 34 flX10_119 rfl dX10_dayGoes_85 ?_
        refine Ev_bipush 60 dX10_dayGoes_88 (by decide) ?_
        refine Ev_iload_n dX10_dayGoes_90 rfl ?_
        refine Ev_iadd dX10_dayGoes_91 ?_
        obtain ⟨g, h⟩ := h
        refine Ev_iald g dX10_dayGoes_92 ?_
        refine Ev_iload_n dX10_dayGoes_93 rfl ?_
        refine Ev_iadd dX10_dayGoes_94 ?_
        refine Ev_aload_n dX10_dayGoes_95 rfl ?_
        refine Ev_getF 11 92 34 flX10_119 rfl dX10_dayGoes_96 ?_
        refine Ev_bipush 64 dX10_dayGoes_99 (by decide) ?_
        refine Ev_iload_n dX10_dayGoes_101 rfl ?_
        refine Ev_iadd dX10_dayGoes_102 ?_
        obtain ⟨g, h⟩ := h
        refine Ev_iald g dX10_dayGoes_103 ?_
        obtain ⟨y9, μ7, hM8, h⟩ := h
        refine Ev_callV [_, _, _, _, _] mlX10_362 rfl rfl (Nat.le_of_ble_eq_true rfl) dX10_dayGoes_104 hM8 ?_
        refine Ev_pop dX10_dayGoes_107 (fun _ z => by cases z) ?_
        refine Ev_iinc (x1 + 1) dX10_dayGoes_108 rfl rfl (okp_of rfl) ?_
        refine Ev_goto 2 dX10_dayGoes_111 (by decide) ?_
        refine Ev_weak ?_ h
        exact And.intro rfl (And.intro rfl (And.intro trivial (trivial)))
    · have h := h.2 q
      refine Ev_goto 108 dX10_dayGoes_27 (by decide) ?_
      refine Ev_iinc (x1 + 1) dX10_dayGoes_108 rfl rfl (okp_of rfl) ?_
      refine Ev_goto 2 dX10_dayGoes_111 (by decide) ?_
      exact h
set_option maxHeartbeats 4000000 in
set_option maxRecDepth 100000 in
theorem X10_dayGoes_at116_ok {d : Nat} {x1 : Int32} {μ μ' : Mem} (h : ((48 ≤ x1 → X10_dayGoes_at191 d 0 μ μ') ∧ (¬ 48 ≤ x1 → (∃ (y3 : Int32) (μ1 : Mem), X10_isLand d x1 μ y3 μ1 ∧ ((y3 ≠ 0 → (∃ (y6 : Int32) (μ4 : Mem), X10_isLacking d x1 μ1 y6 μ4 ∧ ((y6 = 0 → (∃ (y9 : Int32) (μ7 : Mem), X10_isFlooded d x1 μ4 y9 μ7 ∧ ((y9 = 0 → X10_dayGoes_at116 d (x1 + 1) μ7 μ') ∧ (¬ y9 = 0 → (∃ (y12 : Int32) (μ10 : Mem), X10_fieldAt d x1 μ7 y12 μ10 ∧ vp_in (82 + y12) 92 ∧ vp_in (82 + y12) 92 ∧ (∀ μ13 : Mem, μ13 = sI μ10 34 ((82 + y12).toNatClampNeg) ((μ10.1 34 ((82 + y12).toNatClampNeg)) + 1) → X10_dayGoes_at116 d (x1 + 1) μ13 μ')))))) ∧ (¬ y6 = 0 → (∃ (y16 : Int32) (μ14 : Mem), X10_fieldAt d x1 μ4 y16 μ14 ∧ vp_in (76 + y16) 92 ∧ vp_in (76 + y16) 92 ∧ (∀ μ17 : Mem, μ17 = sI μ14 34 ((76 + y16).toNatClampNeg) ((μ14.1 34 ((76 + y16).toNatClampNeg)) + 1) → (∃ (y20 : Int32) (μ18 : Mem), X10_isFlooded d x1 μ17 y20 μ18 ∧ ((y20 = 0 → X10_dayGoes_at116 d (x1 + 1) μ18 μ') ∧ (¬ y20 = 0 → (∃ (y23 : Int32) (μ21 : Mem), X10_fieldAt d x1 μ18 y23 μ21 ∧ vp_in (82 + y23) 92 ∧ vp_in (82 + y23) 92 ∧ (∀ μ24 : Mem, μ24 = sI μ21 34 ((82 + y23).toNatClampNeg) ((μ21.1 34 ((82 + y23).toNatClampNeg)) + 1) → X10_dayGoes_at116 d (x1 + 1) μ24 μ'))))))))))) ∧ (y3 = 0 → X10_dayGoes_at116 d (x1 + 1) μ1 μ')))))) : X10_dayGoes_at116 d x1 μ μ' := by
  refine Ev_iload_n dX10_dayGoes_116 rfl ?_
  refine Ev_bipush 48 dX10_dayGoes_117 (by decide) ?_
  refine Ev_icmp_ge 189 dX10_dayGoes_119 (by decide) (fun q => ?_) (fun q => ?_)
  · have h := h.1 q
    refine Ev_iconst 0 dX10_dayGoes_189 (by decide) ?_
    refine Ev_istore_n dX10_dayGoes_190 (Nat.le_of_ble_eq_true rfl) (okp_of rfl) ?_
    exact h
  · have h := h.2 q
    refine Ev_aload_n dX10_dayGoes_122 rfl ?_
    refine Ev_iload_n dX10_dayGoes_123 rfl ?_
    obtain ⟨y3, μ1, hM2, h⟩ := h
    refine Ev_callV [_] mlX10_366 rfl rfl (Nat.le_of_ble_eq_true rfl) dX10_dayGoes_124 hM2 ?_
    refine Ev_if_ne 133 dX10_dayGoes_127 (by decide) (fun q => ?_) (fun q => ?_)
    · have h := h.1 q
      refine Ev_aload_n dX10_dayGoes_133 rfl ?_
      refine Ev_iload_n dX10_dayGoes_134 rfl ?_
      obtain ⟨y6, μ4, hM5, h⟩ := h
      refine Ev_callV [_] mlX10_369 rfl rfl (Nat.le_of_ble_eq_true rfl) dX10_dayGoes_135 hM5 ?_
      refine Ev_if_eq 158 dX10_dayGoes_138 (by decide) (fun q => ?_) (fun q => ?_)
      · have h := h.1 q
        refine Ev_aload_n dX10_dayGoes_158 rfl ?_
        refine Ev_iload_n dX10_dayGoes_159 rfl ?_
        obtain ⟨y9, μ7, hM8, h⟩ := h
        refine Ev_callV [_] mlX10_372 rfl rfl (Nat.le_of_ble_eq_true rfl) dX10_dayGoes_160 hM8 ?_
        refine Ev_if_eq 183 dX10_dayGoes_163 (by decide) (fun q => ?_) (fun q => ?_)
        · have h := h.1 q
          refine Ev_iinc (x1 + 1) dX10_dayGoes_183 rfl rfl (okp_of rfl) ?_
          refine Ev_goto 116 dX10_dayGoes_186 (by decide) ?_
          exact h
        · have h := h.2 q
          refine Ev_aload_n dX10_dayGoes_166 rfl ?_
          refine Ev_getF 11 92 34 flX10_119 rfl dX10_dayGoes_167 ?_
          refine Ev_bipush 82 dX10_dayGoes_170 (by decide) ?_
          refine Ev_aload_n dX10_dayGoes_172 rfl ?_
          refine Ev_iload_n dX10_dayGoes_173 rfl ?_
          obtain ⟨y12, μ10, hM11, h⟩ := h
          refine Ev_callV [_] mlX10_347 rfl rfl (Nat.le_of_ble_eq_true rfl) dX10_dayGoes_174 hM11 ?_
          refine Ev_iadd dX10_dayGoes_177 ?_
          refine Ev_dup2 dX10_dayGoes_178 ?_
          obtain ⟨g, h⟩ := h
          refine Ev_iald g dX10_dayGoes_179 ?_
          refine Ev_iconst 1 dX10_dayGoes_180 (by decide) ?_
          refine Ev_iadd dX10_dayGoes_181 ?_
          obtain ⟨g, h⟩ := h
          refine Ev_iast g dX10_dayGoes_182 ?_
          have h := h _ rfl
          refine Ev_iinc (x1 + 1) dX10_dayGoes_183 rfl rfl (okp_of rfl) ?_
          refine Ev_goto 116 dX10_dayGoes_186 (by decide) ?_
          exact h
      · have h := h.2 q
        refine Ev_aload_n dX10_dayGoes_141 rfl ?_
        refine Ev_getF 11 92 34 flX10_119 rfl dX10_dayGoes_142 ?_
        refine Ev_bipush 76 dX10_dayGoes_145 (by decide) ?_
        refine Ev_aload_n dX10_dayGoes_147 rfl ?_
        refine Ev_iload_n dX10_dayGoes_148 rfl ?_
        obtain ⟨y16, μ14, hM15, h⟩ := h
        refine Ev_callV [_] mlX10_347 rfl rfl (Nat.le_of_ble_eq_true rfl) dX10_dayGoes_149 hM15 ?_
        refine Ev_iadd dX10_dayGoes_152 ?_
        refine Ev_dup2 dX10_dayGoes_153 ?_
        obtain ⟨g, h⟩ := h
        refine Ev_iald g dX10_dayGoes_154 ?_
        refine Ev_iconst 1 dX10_dayGoes_155 (by decide) ?_
        refine Ev_iadd dX10_dayGoes_156 ?_
        obtain ⟨g, h⟩ := h
        refine Ev_iast g dX10_dayGoes_157 ?_
        have h := h _ rfl
        refine Ev_aload_n dX10_dayGoes_158 rfl ?_
        refine Ev_iload_n dX10_dayGoes_159 rfl ?_
        obtain ⟨y20, μ18, hM19, h⟩ := h
        refine Ev_callV [_] mlX10_372 rfl rfl (Nat.le_of_ble_eq_true rfl) dX10_dayGoes_160 hM19 ?_
        refine Ev_if_eq 183 dX10_dayGoes_163 (by decide) (fun q => ?_) (fun q => ?_)
        · have h := h.1 q
          refine Ev_iinc (x1 + 1) dX10_dayGoes_183 rfl rfl (okp_of rfl) ?_
          refine Ev_goto 116 dX10_dayGoes_186 (by decide) ?_
          exact h
        · have h := h.2 q
          refine Ev_aload_n dX10_dayGoes_166 rfl ?_
          refine Ev_getF 11 92 34 flX10_119 rfl dX10_dayGoes_167 ?_
          refine Ev_bipush 82 dX10_dayGoes_170 (by decide) ?_
          refine Ev_aload_n dX10_dayGoes_172 rfl ?_
          refine Ev_iload_n dX10_dayGoes_173 rfl ?_
          obtain ⟨y23, μ21, hM22, h⟩ := h
          refine Ev_callV [_] mlX10_347 rfl rfl (Nat.le_of_ble_eq_true rfl) dX10_dayGoes_174 hM22 ?_
          refine Ev_iadd dX10_dayGoes_177 ?_
          refine Ev_dup2 dX10_dayGoes_178 ?_
          obtain ⟨g, h⟩ := h
          refine Ev_iald g dX10_dayGoes_179 ?_
          refine Ev_iconst 1 dX10_dayGoes_180 (by decide) ?_
          refine Ev_iadd dX10_dayGoes_181 ?_
          obtain ⟨g, h⟩ := h
          refine Ev_iast g dX10_dayGoes_182 ?_
          have h := h _ rfl
          refine Ev_iinc (x1 + 1) dX10_dayGoes_183 rfl rfl (okp_of rfl) ?_
          refine Ev_goto 116 dX10_dayGoes_186 (by decide) ?_
          exact h
    · have h := h.2 q
      refine Ev_goto 183 dX10_dayGoes_130 (by decide) ?_
      refine Ev_iinc (x1 + 1) dX10_dayGoes_183 rfl rfl (okp_of rfl) ?_
      refine Ev_goto 116 dX10_dayGoes_186 (by decide) ?_
      exact h
set_option maxHeartbeats 4000000 in
set_option maxRecDepth 100000 in
theorem X10_dayGoes_at191_ok {d : Nat} {x1 : Int32} {μ μ' : Mem} (h : ((48 ≤ x1 → (∃ (μ1 : Mem), X10_looks d μ μ1 ∧ (∀ μ3 : Mem, μ3 = sI μ1 31 6 (μ1.1 34 89) → (∃ (y6 : Int32) (μ4 : Mem), X10_asks d 2 0 999 μ3 y6 μ4 ∧ ((((μ3.1 34 88) + y6) ≤ 9999 → (∀ μ7 : Mem, μ7 = sI μ4 34 88 ((μ3.1 34 88) + y6) → (∀ μ8 : Mem, μ8 = sI μ7 34 89 ((μ7.1 34 89) + 1) → μ' = μ8))) ∧ (¬ ((μ3.1 34 88) + y6) ≤ 9999 → (∀ μ9 : Mem, μ9 = sI μ4 34 88 9999 → (∀ μ10 : Mem, μ10 = sI μ9 34 89 ((μ9.1 34 89) + 1) → μ' = μ10)))))))) ∧ (¬ 48 ≤ x1 → (∃ (y13 : Int32) (μ11 : Mem), X10_isLand d x1 μ y13 μ11 ∧ ((y13 ≠ 0 → (∃ (y16 : Int32) (μ14 : Mem), X10_driesIn d x1 μ11 y16 μ14 ∧ vp_in x1 92 ∧ (((μ14.1 34 x1.toNatClampNeg) ≤ y16 → vp_in x1 92 ∧ (∀ μ17 : Mem, μ17 = sI μ14 34 x1.toNatClampNeg 0 → X10_dayGoes_at191 d (x1 + 1) μ17 μ')) ∧ (¬ (μ14.1 34 x1.toNatClampNeg) ≤ y16 → vp_in x1 92 ∧ vp_in x1 92 ∧ (∀ μ18 : Mem, μ18 = sI μ14 34 x1.toNatClampNeg ((μ14.1 34 x1.toNatClampNeg) - y16) → X10_dayGoes_at191 d (x1 + 1) μ18 μ'))))) ∧ (y13 = 0 → X10_dayGoes_at191 d (x1 + 1) μ11 μ')))))) : X10_dayGoes_at191 d x1 μ μ' := by
  refine Ev_iload_n dX10_dayGoes_191 rfl ?_
  refine Ev_bipush 48 dX10_dayGoes_192 (by decide) ?_
  refine Ev_icmp_ge 248 dX10_dayGoes_194 (by decide) (fun q => ?_) (fun q => ?_)
  · have h := h.1 q
    refine Ev_aload_n dX10_dayGoes_248 rfl ?_
    obtain ⟨μ1, hM2, h⟩ := h
    refine Ev_callV [] mlX10_337 rfl rfl (Nat.le_of_ble_eq_true rfl) dX10_dayGoes_249 hM2 ?_
    refine Ev_aload_n dX10_dayGoes_252 rfl ?_
    refine Ev_getF 11 9 31 flX10_110 rfl dX10_dayGoes_253 ?_
    refine Ev_bipush 6 dX10_dayGoes_256 (by decide) ?_
    refine Ev_aload_n dX10_dayGoes_258 rfl ?_
    refine Ev_getF 11 92 34 flX10_119 rfl dX10_dayGoes_259 ?_
    refine Ev_bipush 89 dX10_dayGoes_262 (by decide) ?_
    refine Ev_iald (n := 92) (vp_lit (by decide)) dX10_dayGoes_264 ?_
    refine Ev_iast (n := 9) (vp_lit (by decide)) dX10_dayGoes_265 ?_
    have h := h _ rfl
    refine Ev_aload_n dX10_dayGoes_266 rfl ?_
    refine Ev_getF 11 92 34 flX10_119 rfl dX10_dayGoes_267 ?_
    refine Ev_bipush 88 dX10_dayGoes_270 (by decide) ?_
    refine Ev_iald (n := 92) (vp_lit (by decide)) dX10_dayGoes_272 ?_
    refine Ev_aload_n dX10_dayGoes_273 rfl ?_
    refine Ev_iconst 2 dX10_dayGoes_274 (by decide) ?_
    refine Ev_iconst 0 dX10_dayGoes_275 (by decide) ?_
    refine Ev_sipush 999 dX10_dayGoes_276 (by decide) ?_
    obtain ⟨y6, μ4, hM5, h⟩ := h
    refine Ev_callV [_, _, _] mlX10_340 rfl rfl (Nat.le_of_ble_eq_true rfl) dX10_dayGoes_279 hM5 ?_
    refine Ev_iadd dX10_dayGoes_282 ?_
    refine Ev_istore_n dX10_dayGoes_283 (Nat.le_of_ble_eq_true rfl) (okp_of rfl) ?_
    refine Ev_aload_n dX10_dayGoes_284 rfl ?_
    refine Ev_getF 11 92 34 flX10_119 rfl dX10_dayGoes_285 ?_
    refine Ev_bipush 88 dX10_dayGoes_288 (by decide) ?_
    refine Ev_iload_n dX10_dayGoes_290 rfl ?_
    refine Ev_sipush 9999 dX10_dayGoes_291 (by decide) ?_
    refine Ev_icmp_le 303 dX10_dayGoes_294 (by decide) (fun q => ?_) (fun q => ?_)
    · have h := h.1 q
      refine Ev_iload_n dX10_dayGoes_303 rfl ?_
      refine Ev_iast (n := 92) (vp_lit (by decide)) dX10_dayGoes_304 ?_
      have h := h _ rfl
      refine Ev_aload_n dX10_dayGoes_305 rfl ?_
      refine Ev_getF 11 92 34 flX10_119 rfl dX10_dayGoes_306 ?_
      refine Ev_bipush 89 dX10_dayGoes_309 (by decide) ?_
      refine Ev_dup2 dX10_dayGoes_311 ?_
      refine Ev_iald (n := 92) (vp_lit (by decide)) dX10_dayGoes_312 ?_
      refine Ev_iconst 1 dX10_dayGoes_313 (by decide) ?_
      refine Ev_iadd dX10_dayGoes_314 ?_
      refine Ev_iast (n := 92) (vp_lit (by decide)) dX10_dayGoes_315 ?_
      have h := h _ rfl
      subst h
      exact R_v rfl dX10_dayGoes_316
    · have h := h.2 q
      refine Ev_sipush 9999 dX10_dayGoes_297 (by decide) ?_
      refine Ev_goto 304 dX10_dayGoes_300 (by decide) ?_
      refine Ev_iast (n := 92) (vp_lit (by decide)) dX10_dayGoes_304 ?_
      have h := h _ rfl
      refine Ev_aload_n dX10_dayGoes_305 rfl ?_
      refine Ev_getF 11 92 34 flX10_119 rfl dX10_dayGoes_306 ?_
      refine Ev_bipush 89 dX10_dayGoes_309 (by decide) ?_
      refine Ev_dup2 dX10_dayGoes_311 ?_
      refine Ev_iald (n := 92) (vp_lit (by decide)) dX10_dayGoes_312 ?_
      refine Ev_iconst 1 dX10_dayGoes_313 (by decide) ?_
      refine Ev_iadd dX10_dayGoes_314 ?_
      refine Ev_iast (n := 92) (vp_lit (by decide)) dX10_dayGoes_315 ?_
      have h := h _ rfl
      subst h
      exact R_v rfl dX10_dayGoes_316
  · have h := h.2 q
    refine Ev_aload_n dX10_dayGoes_197 rfl ?_
    refine Ev_iload_n dX10_dayGoes_198 rfl ?_
    obtain ⟨y13, μ11, hM12, h⟩ := h
    refine Ev_callV [_] mlX10_366 rfl rfl (Nat.le_of_ble_eq_true rfl) dX10_dayGoes_199 hM12 ?_
    refine Ev_if_ne 208 dX10_dayGoes_202 (by decide) (fun q => ?_) (fun q => ?_)
    · have h := h.1 q
      refine Ev_aload_n dX10_dayGoes_208 rfl ?_
      refine Ev_iload_n dX10_dayGoes_209 rfl ?_
      obtain ⟨y16, μ14, hM15, h⟩ := h
      refine Ev_callV [_] mlX10_375 rfl rfl (Nat.le_of_ble_eq_true rfl) dX10_dayGoes_210 hM15 ?_
      refine Ev_istore_n dX10_dayGoes_213 (Nat.le_of_ble_eq_true rfl) (okp_of rfl) ?_
      refine Ev_aload_n dX10_dayGoes_214 rfl ?_
      refine Ev_getF 11 92 34 flX10_119 rfl dX10_dayGoes_215 ?_
      refine Ev_iload_n dX10_dayGoes_218 rfl ?_
      refine Ev_aload_n dX10_dayGoes_219 rfl ?_
      refine Ev_getF 11 92 34 flX10_119 rfl dX10_dayGoes_220 ?_
      refine Ev_iload_n dX10_dayGoes_223 rfl ?_
      obtain ⟨g, h⟩ := h
      refine Ev_iald g dX10_dayGoes_224 ?_
      refine Ev_iload_n dX10_dayGoes_225 rfl ?_
      refine Ev_icmp_le 240 dX10_dayGoes_226 (by decide) (fun q => ?_) (fun q => ?_)
      · have h := h.1 q
        refine Ev_iconst 0 dX10_dayGoes_240 (by decide) ?_
        obtain ⟨g, h⟩ := h
        refine Ev_iast g dX10_dayGoes_241 ?_
        have h := h _ rfl
        refine Ev_iinc (x1 + 1) dX10_dayGoes_242 rfl rfl (okp_of rfl) ?_
        refine Ev_goto 191 dX10_dayGoes_245 (by decide) ?_
        refine Ev_weak ?_ h
        exact And.intro rfl (And.intro rfl (And.intro trivial (trivial)))
      · have h := h.2 q
        refine Ev_aload_n dX10_dayGoes_229 rfl ?_
        refine Ev_getF 11 92 34 flX10_119 rfl dX10_dayGoes_230 ?_
        refine Ev_iload_n dX10_dayGoes_233 rfl ?_
        obtain ⟨g, h⟩ := h
        refine Ev_iald g dX10_dayGoes_234 ?_
        refine Ev_iload_n dX10_dayGoes_235 rfl ?_
        refine Ev_isub dX10_dayGoes_236 ?_
        refine Ev_goto 241 dX10_dayGoes_237 (by decide) ?_
        obtain ⟨g, h⟩ := h
        refine Ev_iast g dX10_dayGoes_241 ?_
        have h := h _ rfl
        refine Ev_iinc (x1 + 1) dX10_dayGoes_242 rfl rfl (okp_of rfl) ?_
        refine Ev_goto 191 dX10_dayGoes_245 (by decide) ?_
        refine Ev_weak ?_ h
        exact And.intro rfl (And.intro rfl (And.intro trivial (trivial)))
    · have h := h.2 q
      refine Ev_goto 242 dX10_dayGoes_205 (by decide) ?_
      refine Ev_iinc (x1 + 1) dX10_dayGoes_242 rfl rfl (okp_of rfl) ?_
      refine Ev_goto 191 dX10_dayGoes_245 (by decide) ?_
      exact h
set_option maxHeartbeats 4000000 in
set_option maxRecDepth 100000 in
theorem X10_days_ok {d : Nat} {x1 : Int32} {μ μ' : Mem} {x : Int32} (h : (∃ (y3 : Int32) (μ1 : Mem), X10_in d x1 0 30 μ y3 μ1 ∧ ((y3 ≠ 0 → ((x1 ≠ 0 → (∃ (μ4 : Mem), X10_copies d μ1 μ4 ∧ (∃ (μ6 : Mem), X10_goes d x1 μ4 μ6 ∧ (∃ (μ8 : Mem), X10_keeps d μ6 μ8 ∧ (x = μ8.1 33 89 ∧ μ' = μ8))))) ∧ (x1 = 0 → (x = μ1.1 33 89 ∧ μ' = μ1)))) ∧ (y3 = 0 → (x = (-1) ∧ μ' = μ1))))) : X10_days (d + 1) x1 μ x μ' := by
  refine Me_of [some (vr 10 0 0), some (vi x1)] rfl (Nat.le_of_ble_eq_true rfl) (by decide) ?_
  refine Ev_iload_n dX10_days_0 rfl ?_
  refine Ev_iconst 0 dX10_days_1 (by decide) ?_
  refine Ev_bipush 30 dX10_days_2 (by decide) ?_
  obtain ⟨y3, μ1, hM2, h⟩ := h
  refine Ev_callS [_, _, _] mlX10_323 rfl rfl (Nat.le_of_ble_eq_true rfl) dX10_days_4 hM2 ?_
  refine Ev_if_ne 12 dX10_days_7 (by decide) (fun q => ?_) (fun q => ?_)
  · have h := h.1 q
    refine Ev_iload_n dX10_days_12 rfl ?_
    refine Ev_if_ne 24 dX10_days_13 (by decide) (fun q => ?_) (fun q => ?_)
    · have h := h.1 q
      refine Ev_aload_n dX10_days_24 rfl ?_
      obtain ⟨μ4, hM5, h⟩ := h
      refine Ev_callV [] mlX10_381 rfl rfl (Nat.le_of_ble_eq_true rfl) dX10_days_25 hM5 ?_
      refine Ev_aload_n dX10_days_28 rfl ?_
      refine Ev_iload_n dX10_days_29 rfl ?_
      obtain ⟨μ6, hM7, h⟩ := h
      refine Ev_callV [_] mlX10_402 rfl rfl (Nat.le_of_ble_eq_true rfl) dX10_days_30 hM7 ?_
      refine Ev_aload_n dX10_days_33 rfl ?_
      obtain ⟨μ8, hM9, h⟩ := h
      refine Ev_callV [] mlX10_399 rfl rfl (Nat.le_of_ble_eq_true rfl) dX10_days_34 hM9 ?_
      refine Ev_aload_n dX10_days_37 rfl ?_
      refine Ev_getF 11 92 33 flX10_116 rfl dX10_days_38 ?_
      refine Ev_bipush 89 dX10_days_41 (by decide) ?_
      refine Ev_iald (n := 92) (vp_lit (by decide)) dX10_days_43 ?_
      obtain ⟨rfl, rfl⟩ := h
      exact R_i rfl dX10_days_44 rfl
    · have h := h.2 q
      refine Ev_aload_n dX10_days_16 rfl ?_
      refine Ev_getF 11 92 33 flX10_116 rfl dX10_days_17 ?_
      refine Ev_bipush 89 dX10_days_20 (by decide) ?_
      refine Ev_iald (n := 92) (vp_lit (by decide)) dX10_days_22 ?_
      obtain ⟨rfl, rfl⟩ := h
      exact R_i rfl dX10_days_23 rfl
  · have h := h.2 q
    refine Ev_iconst (-1) dX10_days_10 (by decide) ?_
    obtain ⟨rfl, rfl⟩ := h
    exact R_i rfl dX10_days_11 rfl
set_option maxHeartbeats 4000000 in
set_option maxRecDepth 100000 in
theorem X10_driesIn_ok {d : Nat} {x1 : Int32} {μ μ' : Mem} {x : Int32} (h : (∃ (μ1 : Mem), X10_looks d μ μ1 ∧ vp_in x1 92 ∧ (∀ μ3 : Mem, μ3 = sI μ1 31 3 (μ1.1 34 x1.toNatClampNeg) → (∃ (y6 : Int32) (μ4 : Mem), X10_needOf d x1 μ3 y6 μ4 ∧ (∀ μ7 : Mem, μ7 = sI μ4 31 4 y6 → (∃ (y10 : Int32) (μ8 : Mem), X10_drownOf d x1 μ7 y10 μ8 ∧ (∀ μ11 : Mem, μ11 = sI μ8 31 5 y10 → (∀ μ12 : Mem, μ12 = sI μ11 31 6 (μ11.1 34 89) → (∃ (y15 : Int32) (μ13 : Mem), X10_asks d 1 1 99 μ12 y15 μ13 ∧ (x = y15 ∧ μ' = μ13)))))))))) : X10_driesIn (d + 1) x1 μ x μ' := by
  refine Me_of [some (vr 10 0 0), some (vi x1)] rfl (Nat.le_of_ble_eq_true rfl) (by decide) ?_
  refine Ev_aload_n dX10_driesIn_0 rfl ?_
  obtain ⟨μ1, hM2, h⟩ := h
  refine Ev_callV [] mlX10_337 rfl rfl (Nat.le_of_ble_eq_true rfl) dX10_driesIn_1 hM2 ?_
  refine Ev_aload_n dX10_driesIn_4 rfl ?_
  refine Ev_getF 11 9 31 flX10_110 rfl dX10_driesIn_5 ?_
  refine Ev_iconst 3 dX10_driesIn_8 (by decide) ?_
  refine Ev_aload_n dX10_driesIn_9 rfl ?_
  refine Ev_getF 11 92 34 flX10_119 rfl dX10_driesIn_10 ?_
  refine Ev_iload_n dX10_driesIn_13 rfl ?_
  obtain ⟨g, h⟩ := h
  refine Ev_iald g dX10_driesIn_14 ?_
  refine Ev_iast (n := 9) (vp_lit (by decide)) dX10_driesIn_15 ?_
  have h := h _ rfl
  refine Ev_aload_n dX10_driesIn_16 rfl ?_
  refine Ev_getF 11 9 31 flX10_110 rfl dX10_driesIn_17 ?_
  refine Ev_iconst 4 dX10_driesIn_20 (by decide) ?_
  refine Ev_aload_n dX10_driesIn_21 rfl ?_
  refine Ev_iload_n dX10_driesIn_22 rfl ?_
  obtain ⟨y6, μ4, hM5, h⟩ := h
  refine Ev_callV [_] mlX10_350 rfl rfl (Nat.le_of_ble_eq_true rfl) dX10_driesIn_23 hM5 ?_
  refine Ev_iast (n := 9) (vp_lit (by decide)) dX10_driesIn_26 ?_
  have h := h _ rfl
  refine Ev_aload_n dX10_driesIn_27 rfl ?_
  refine Ev_getF 11 9 31 flX10_110 rfl dX10_driesIn_28 ?_
  refine Ev_iconst 5 dX10_driesIn_31 (by decide) ?_
  refine Ev_aload_n dX10_driesIn_32 rfl ?_
  refine Ev_iload_n dX10_driesIn_33 rfl ?_
  obtain ⟨y10, μ8, hM9, h⟩ := h
  refine Ev_callV [_] mlX10_353 rfl rfl (Nat.le_of_ble_eq_true rfl) dX10_driesIn_34 hM9 ?_
  refine Ev_iast (n := 9) (vp_lit (by decide)) dX10_driesIn_37 ?_
  have h := h _ rfl
  refine Ev_aload_n dX10_driesIn_38 rfl ?_
  refine Ev_getF 11 9 31 flX10_110 rfl dX10_driesIn_39 ?_
  refine Ev_bipush 6 dX10_driesIn_42 (by decide) ?_
  refine Ev_aload_n dX10_driesIn_44 rfl ?_
  refine Ev_getF 11 92 34 flX10_119 rfl dX10_driesIn_45 ?_
  refine Ev_bipush 89 dX10_driesIn_48 (by decide) ?_
  refine Ev_iald (n := 92) (vp_lit (by decide)) dX10_driesIn_50 ?_
  refine Ev_iast (n := 9) (vp_lit (by decide)) dX10_driesIn_51 ?_
  have h := h _ rfl
  refine Ev_aload_n dX10_driesIn_52 rfl ?_
  refine Ev_iconst 1 dX10_driesIn_53 (by decide) ?_
  refine Ev_iconst 1 dX10_driesIn_54 (by decide) ?_
  refine Ev_bipush 99 dX10_driesIn_55 (by decide) ?_
  obtain ⟨y15, μ13, hM14, h⟩ := h
  refine Ev_callV [_, _, _] mlX10_340 rfl rfl (Nat.le_of_ble_eq_true rfl) dX10_driesIn_57 hM14 ?_
  obtain ⟨rfl, rfl⟩ := h
  exact R_i rfl dX10_driesIn_60 rfl
set_option maxHeartbeats 4000000 in
set_option maxRecDepth 100000 in
theorem X10_drownOf_ok {d : Nat} {x1 : Int32} {μ μ' : Mem} {x : Int32} (h : (∃ (y3 : Int32) (μ1 : Mem), X10_fieldAt d x1 μ y3 μ1 ∧ ((0 ≤ y3 → (∃ (y6 : Int32) (μ4 : Mem), X10_fieldAt d x1 μ1 y6 μ4 ∧ vp_in ((6 * (μ1.1 0 18)) + y6) 12 ∧ (x = μ4.1 14 (((6 * (μ1.1 0 18)) + y6).toNatClampNeg) ∧ μ' = μ4))) ∧ (¬ 0 ≤ y3 → (x = 0 ∧ μ' = μ1))))) : X10_drownOf (d + 1) x1 μ x μ' := by
  refine Me_of [some (vr 10 0 0), some (vi x1)] rfl (Nat.le_of_ble_eq_true rfl) (by decide) ?_
  refine Ev_aload_n dX10_drownOf_0 rfl ?_
  refine Ev_iload_n dX10_drownOf_1 rfl ?_
  obtain ⟨y3, μ1, hM2, h⟩ := h
  refine Ev_callV [_] mlX10_347 rfl rfl (Nat.le_of_ble_eq_true rfl) dX10_drownOf_2 hM2 ?_
  refine Ev_if_ge 12 dX10_drownOf_5 (by decide) (fun q => ?_) (fun q => ?_)
  · have h := h.1 q
    refine Ev_aload_n dX10_drownOf_12 rfl ?_
    refine Ev_getF 11 12 14 flX10_58 rfl dX10_drownOf_13 ?_
    refine Ev_bipush 6 dX10_drownOf_16 (by decide) ?_
    refine Ev_aload_n dX10_drownOf_18 rfl ?_
    refine Ev_getI flX10_239 rfl dX10_drownOf_19 ?_
    refine Ev_imul dX10_drownOf_22 ?_
    refine Ev_aload_n dX10_drownOf_23 rfl ?_
    refine Ev_iload_n dX10_drownOf_24 rfl ?_
    obtain ⟨y6, μ4, hM5, h⟩ := h
    refine Ev_callV [_] mlX10_347 rfl rfl (Nat.le_of_ble_eq_true rfl) dX10_drownOf_25 hM5 ?_
    refine Ev_iadd dX10_drownOf_28 ?_
    obtain ⟨g, h⟩ := h
    refine Ev_iald g dX10_drownOf_29 ?_
    obtain ⟨rfl, rfl⟩ := h
    exact R_i rfl dX10_drownOf_30 rfl
  · have h := h.2 q
    refine Ev_iconst 0 dX10_drownOf_8 (by decide) ?_
    refine Ev_goto 30 dX10_drownOf_9 (by decide) ?_
    obtain ⟨rfl, rfl⟩ := h
    exact R_i rfl dX10_drownOf_30 rfl
set_option maxHeartbeats 4000000 in
set_option maxRecDepth 100000 in
theorem X10_dry_ok {d : Nat} {x1 : Int32} {μ μ' : Mem} {x : Int32} (h : (∃ (y3 : Int32) (μ1 : Mem), X10_isLong d x1 μ y3 μ1 ∧ ((y3 ≠ 0 → (∃ (μ4 : Mem), X10_copies d μ1 μ4 ∧ (∃ (μ6 : Mem), X10_goes d x1 μ4 μ6 ∧ X10_dry_at22 d 0 0 μ6 x μ'))) ∧ (y3 = 0 → (x = (-1) ∧ μ' = μ1))))) : X10_dry (d + 1) x1 μ x μ' := by
  refine Me_of [some (vr 10 0 0), some (vi x1), none, none] rfl (Nat.le_of_ble_eq_true rfl) (by decide) ?_
  refine Ev_iload_n dX10_dry_0 rfl ?_
  obtain ⟨y3, μ1, hM2, h⟩ := h
  refine Ev_callS [_] mlX10_442 rfl rfl (Nat.le_of_ble_eq_true rfl) dX10_dry_1 hM2 ?_
  refine Ev_if_ne 9 dX10_dry_4 (by decide) (fun q => ?_) (fun q => ?_)
  · have h := h.1 q
    refine Ev_aload_n dX10_dry_9 rfl ?_
    obtain ⟨μ4, hM5, h⟩ := h
    refine Ev_callV [] mlX10_381 rfl rfl (Nat.le_of_ble_eq_true rfl) dX10_dry_10 hM5 ?_
    refine Ev_aload_n dX10_dry_13 rfl ?_
    refine Ev_iload_n dX10_dry_14 rfl ?_
    obtain ⟨μ6, hM7, h⟩ := h
    refine Ev_callV [_] mlX10_402 rfl rfl (Nat.le_of_ble_eq_true rfl) dX10_dry_15 hM7 ?_
    refine Ev_iconst 0 dX10_dry_18 (by decide) ?_
    refine Ev_istore_n dX10_dry_19 (Nat.le_of_ble_eq_true rfl) (okp_of rfl) ?_
    refine Ev_iconst 0 dX10_dry_20 (by decide) ?_
    refine Ev_istore_n dX10_dry_21 (Nat.le_of_ble_eq_true rfl) (okp_of rfl) ?_
    refine Ev_weak ?_ h
    exact And.intro rfl (And.intro trivial (And.intro rfl (And.intro rfl (trivial))))
  · have h := h.2 q
    refine Ev_iconst (-1) dX10_dry_7 (by decide) ?_
    obtain ⟨rfl, rfl⟩ := h
    exact R_i rfl dX10_dry_8 rfl
set_option maxHeartbeats 4000000 in
set_option maxRecDepth 100000 in
theorem X10_dry_at22_ok {d : Nat} {x2 : Int32} {x3 : Int32} {μ μ' : Mem} {x : Int32} (h : ((48 ≤ x3 → (x = x2 ∧ μ' = μ)) ∧ (¬ 48 ≤ x3 → (∃ (y3 : Int32) (μ1 : Mem), X10_isLand d x3 μ y3 μ1 ∧ ((y3 = 0 → X10_dry_at22 d x2 (x3 + 1) μ1 x μ') ∧ (¬ y3 = 0 → vp_in x3 92 ∧ (((μ1.1 34 x3.toNatClampNeg) ≠ 0 → X10_dry_at22 d x2 (x3 + 1) μ1 x μ') ∧ ((μ1.1 34 x3.toNatClampNeg) = 0 → X10_dry_at22 d (x2 + 1) (x3 + 1) μ1 x μ')))))))) : X10_dry_at22 d x2 x3 μ x μ' := by
  refine Ev_iload_n dX10_dry_22 rfl ?_
  refine Ev_bipush 48 dX10_dry_23 (by decide) ?_
  refine Ev_icmp_ge 54 dX10_dry_25 (by decide) (fun q => ?_) (fun q => ?_)
  · have h := h.1 q
    refine Ev_iload_n dX10_dry_54 rfl ?_
    obtain ⟨rfl, rfl⟩ := h
    exact R_i rfl dX10_dry_55 rfl
  · have h := h.2 q
    refine Ev_aload_n dX10_dry_28 rfl ?_
    refine Ev_iload_n dX10_dry_29 rfl ?_
    obtain ⟨y3, μ1, hM2, h⟩ := h
    refine Ev_callV [_] mlX10_366 rfl rfl (Nat.le_of_ble_eq_true rfl) dX10_dry_30 hM2 ?_
    refine Ev_if_eq 48 dX10_dry_33 (by decide) (fun q => ?_) (fun q => ?_)
    · have h := h.1 q
      refine Ev_iinc (x3 + 1) dX10_dry_48 rfl rfl (okp_of rfl) ?_
      refine Ev_goto 22 dX10_dry_51 (by decide) ?_
      exact h
    · have h := h.2 q
      refine Ev_aload_n dX10_dry_36 rfl ?_
      refine Ev_getF 11 92 34 flX10_119 rfl dX10_dry_37 ?_
      refine Ev_iload_n dX10_dry_40 rfl ?_
      obtain ⟨g, h⟩ := h
      refine Ev_iald g dX10_dry_41 ?_
      refine Ev_if_ne 48 dX10_dry_42 (by decide) (fun q => ?_) (fun q => ?_)
      · have h := h.1 q
        refine Ev_iinc (x3 + 1) dX10_dry_48 rfl rfl (okp_of rfl) ?_
        refine Ev_goto 22 dX10_dry_51 (by decide) ?_
        exact h
      · have h := h.2 q
        refine Ev_iinc (x2 + 1) dX10_dry_45 rfl rfl (okp_of rfl) ?_
        refine Ev_iinc (x3 + 1) dX10_dry_48 rfl rfl (okp_of rfl) ?_
        refine Ev_goto 22 dX10_dry_51 (by decide) ?_
        exact h
set_option maxHeartbeats 4000000 in
set_option maxRecDepth 100000 in
theorem X10_emit_ok {d : Nat} {x1 : Int32} {x2 : Int32} {μ μ' : Mem} (h : vp_in (μ.1 0 42) 840 ∧ (∀ μ1 : Mem, μ1 = sI μ 28 ((μ.1 0 42).toNatClampNeg) x1 → vp_in (μ1.1 0 42) 840 ∧ (∀ μ2 : Mem, μ2 = sI μ1 29 ((μ1.1 0 42).toNatClampNeg) x2 → (∀ μ3 : Mem, μ3 = sI μ2 0 42 ((μ2.1 0 42) + 1) → μ' = μ3)))) : X10_emit d x1 x2 μ μ' := by
  refine Me_of [some (vr 10 0 0), some (vi x1), some (vi x2)] rfl (Nat.le_of_ble_eq_true rfl) (by decide) ?_
  refine Ev_aload_n dX10_emit_0 rfl ?_
  refine Ev_getF 11 840 28 flX10_101 rfl dX10_emit_1 ?_
  refine Ev_aload_n dX10_emit_4 rfl ?_
  refine Ev_getI flX10_251 rfl dX10_emit_5 ?_
  refine Ev_iload_n dX10_emit_8 rfl ?_
  obtain ⟨g, h⟩ := h
  refine Ev_iast g dX10_emit_9 ?_
  have h := h _ rfl
  refine Ev_aload_n dX10_emit_10 rfl ?_
  refine Ev_getF 11 840 29 flX10_104 rfl dX10_emit_11 ?_
  refine Ev_aload_n dX10_emit_14 rfl ?_
  refine Ev_getI flX10_251 rfl dX10_emit_15 ?_
  refine Ev_iload_n dX10_emit_18 rfl ?_
  obtain ⟨g, h⟩ := h
  refine Ev_iast g dX10_emit_19 ?_
  have h := h _ rfl
  refine Ev_aload_n dX10_emit_20 rfl ?_
  refine Ev_dup dX10_emit_21 (fun _ z => by cases z) ?_
  refine Ev_getI flX10_251 rfl dX10_emit_22 ?_
  refine Ev_iconst 1 dX10_emit_25 (by decide) ?_
  refine Ev_iadd dX10_emit_26 ?_
  refine Ev_putI .int flX10_251 fpX10_42 rfl rfl rfl dX10_emit_27 ?_
  have h := h _ rfl
  subst h
  exact R_v rfl dX10_emit_30
set_option maxHeartbeats 4000000 in
set_option maxRecDepth 100000 in
theorem X10_emptyBy_ok {d : Nat}  {μ μ' : Mem} {x : Int32} (h : (∃ (μ1 : Mem), X10_copies d μ μ1 ∧ X10_emptyBy_at6 d 0 μ1 x μ')) : X10_emptyBy (d + 1) μ x μ' := by
  refine Me_of [some (vr 10 0 0), none] rfl (Nat.le_of_ble_eq_true rfl) (by decide) ?_
  refine Ev_aload_n dX10_emptyBy_0 rfl ?_
  obtain ⟨μ1, hM2, h⟩ := h
  refine Ev_callV [] mlX10_381 rfl rfl (Nat.le_of_ble_eq_true rfl) dX10_emptyBy_1 hM2 ?_
  refine Ev_iconst 0 dX10_emptyBy_4 (by decide) ?_
  refine Ev_istore_n dX10_emptyBy_5 (Nat.le_of_ble_eq_true rfl) (okp_of rfl) ?_
  exact h
set_option maxHeartbeats 4000000 in
set_option maxRecDepth 100000 in
theorem X10_emptyBy_at6_ok {d : Nat} {x1 : Int32} {μ μ' : Mem} {x : Int32} (h : ((200 < x1 → (x = (-2) ∧ μ' = μ)) ∧ (¬ 200 < x1 → (((μ.1 34 88) ≠ 0 → (∃ (μ1 : Mem), X10_dayGoes d μ μ1 ∧ X10_emptyBy_at6 d (x1 + 1) μ1 x μ')) ∧ ((μ.1 34 88) = 0 → (x = x1 ∧ μ' = μ)))))) : X10_emptyBy_at6 d x1 μ x μ' := by
  refine Ev_iload_n dX10_emptyBy_6 rfl ?_
  refine Ev_sipush 200 dX10_emptyBy_7 (by decide) ?_
  refine Ev_icmp_gt 35 dX10_emptyBy_10 (by decide) (fun q => ?_) (fun q => ?_)
  · have h := h.1 q
    refine Ev_bipush (-2) dX10_emptyBy_35 (by decide) ?_
    obtain ⟨rfl, rfl⟩ := h
    exact R_i rfl dX10_emptyBy_37 rfl
  · have h := h.2 q
    refine Ev_aload_n dX10_emptyBy_13 rfl ?_
    refine Ev_getF 11 92 34 flX10_119 rfl dX10_emptyBy_14 ?_
    refine Ev_bipush 88 dX10_emptyBy_17 (by decide) ?_
    refine Ev_iald (n := 92) (vp_lit (by decide)) dX10_emptyBy_19 ?_
    refine Ev_if_ne 25 dX10_emptyBy_20 (by decide) (fun q => ?_) (fun q => ?_)
    · have h := h.1 q
      refine Ev_aload_n dX10_emptyBy_25 rfl ?_
      obtain ⟨μ1, hM2, h⟩ := h
      refine Ev_callV [] mlX10_378 rfl rfl (Nat.le_of_ble_eq_true rfl) dX10_emptyBy_26 hM2 ?_
      refine Ev_iinc (x1 + 1) dX10_emptyBy_29 rfl rfl (okp_of rfl) ?_
      refine Ev_goto 6 dX10_emptyBy_32 (by decide) ?_
      exact h
    · have h := h.2 q
      refine Ev_iload_n dX10_emptyBy_23 rfl ?_
      obtain ⟨rfl, rfl⟩ := h
      exact R_i rfl dX10_emptyBy_24 rfl
set_option maxHeartbeats 4000000 in
set_option maxRecDepth 100000 in
theorem X10_ends_ok {d : Nat} {x1 : Int32} {μ μ' : Mem} (h : (∃ (μ1 : Mem), X10_must d 4 μ μ1 ∧ (((μ1.1 0 13) ≤ 0 → vp_in x1 403 ∧ vp_in (μ1.1 0 20) 10 ∧ (∀ μ3 : Mem, μ3 = sJ μ1 8 ((μ1.1 0 20).toNatClampNeg) (μ1.2.1 6 x1.toNatClampNeg) → (∀ μ4 : Mem, μ4 = sI μ3 0 20 ((μ3.1 0 20) + 1) → μ' = μ4))) ∧ (¬ (μ1.1 0 13) ≤ 0 → μ' = μ1)))) : X10_ends (d + 1) x1 μ μ' := by
  refine Me_of [some (vr 10 0 0), some (vi x1)] rfl (Nat.le_of_ble_eq_true rfl) (by decide) ?_
  refine Ev_aload_n dX10_ends_0 rfl ?_
  refine Ev_iconst 4 dX10_ends_1 (by decide) ?_
  obtain ⟨μ1, hM2, h⟩ := h
  refine Ev_callV [_] mlX10_287 rfl rfl (Nat.le_of_ble_eq_true rfl) dX10_ends_2 hM2 ?_
  refine Ev_aload_n dX10_ends_5 rfl ?_
  refine Ev_getI flX10_209 rfl dX10_ends_6 ?_
  refine Ev_if_le 13 dX10_ends_9 (by decide) (fun q => ?_) (fun q => ?_)
  · have h := h.1 q
    refine Ev_aload_n dX10_ends_13 rfl ?_
    refine Ev_getF 13 10 8 flX10_40 rfl dX10_ends_14 ?_
    refine Ev_aload_n dX10_ends_17 rfl ?_
    refine Ev_getI flX10_245 rfl dX10_ends_18 ?_
    refine Ev_aload_n dX10_ends_21 rfl ?_
    refine Ev_getF 13 403 6 flX10_30 rfl dX10_ends_22 ?_
    refine Ev_iload_n dX10_ends_25 rfl ?_
    obtain ⟨g, h⟩ := h
    refine Ev_lald g dX10_ends_26 ?_
    obtain ⟨g, h⟩ := h
    refine Ev_last g dX10_ends_27 ?_
    have h := h _ rfl
    refine Ev_aload_n dX10_ends_28 rfl ?_
    refine Ev_dup dX10_ends_29 (fun _ z => by cases z) ?_
    refine Ev_getI flX10_245 rfl dX10_ends_30 ?_
    refine Ev_iconst 1 dX10_ends_33 (by decide) ?_
    refine Ev_iadd dX10_ends_34 ?_
    refine Ev_putI .int flX10_245 fpX10_20 rfl rfl rfl dX10_ends_35 ?_
    have h := h _ rfl
    subst h
    exact R_v rfl dX10_ends_38
  · have h := h.2 q
    subst h
    exact R_v rfl dX10_ends_12
set_option maxHeartbeats 4000000 in
set_option maxRecDepth 100000 in
theorem X10_expression_ok {d : Nat}  {μ μ' : Mem} (h : (∀ μ1 : Mem, μ1 = sI μ 0 46 0 → X10_expression_at12 d (μ1.1 0 12) 1 μ1 μ')) : X10_expression (d + 1) μ μ' := by
  refine Me_of [some (vr 10 0 0), none, none] rfl (Nat.le_of_ble_eq_true rfl) (by decide) ?_
  refine Ev_aload_n dX10_expression_0 rfl ?_
  refine Ev_iconst 0 dX10_expression_1 (by decide) ?_
  refine Ev_putI .int flX10_306 fpX10_46 rfl rfl rfl dX10_expression_2 ?_
  have h := h _ rfl
  refine Ev_aload_n dX10_expression_5 rfl ?_
  refine Ev_getI flX10_236 rfl dX10_expression_6 ?_
  refine Ev_istore_n dX10_expression_9 (Nat.le_of_ble_eq_true rfl) (okp_of rfl) ?_
  refine Ev_iconst 1 dX10_expression_10 (by decide) ?_
  refine Ev_istore_n dX10_expression_11 (Nat.le_of_ble_eq_true rfl) (okp_of rfl) ?_
  exact h
set_option maxHeartbeats 4000000 in
set_option maxRecDepth 100000 in
theorem X10_expression_at12_ok {d : Nat} {x1 : Int32} {x2 : Int32} {μ μ' : Mem} (h : ((x2 = 0 → μ' = μ) ∧ (¬ x2 = 0 → (((μ.1 0 13) ≠ 0 → μ' = μ) ∧ ((μ.1 0 13) = 0 → X10_expression_at23 d x1 μ μ'))))) : X10_expression_at12 d x1 x2 μ μ' := by
  refine Ev_iload_n dX10_expression_12 rfl ?_
  refine Ev_if_eq 272 dX10_expression_13 (by decide) (fun q => ?_) (fun q => ?_)
  · have h := h.1 q
    subst h
    exact R_v rfl dX10_expression_272
  · have h := h.2 q
    refine Ev_aload_n dX10_expression_16 rfl ?_
    refine Ev_getI flX10_209 rfl dX10_expression_17 ?_
    refine Ev_if_ne 272 dX10_expression_20 (by decide) (fun q => ?_) (fun q => ?_)
    · have h := h.1 q
      subst h
      exact R_v rfl dX10_expression_272
    · have h := h.2 q
      refine Ev_weak ?_ h
      exact And.intro rfl (And.intro rfl (And.intro trivial (trivial)))
set_option maxHeartbeats 4000000 in
set_option maxRecDepth 100000 in
theorem X10_expression_at23_ok {d : Nat} {x1 : Int32} {μ μ' : Mem} (h : (∃ (y3 : Int32) (μ1 : Mem), X10_is d 6 μ y3 μ1 ∧ ((y3 = 0 → (∃ (μ4 : Mem), X10_unit d μ1 μ4 ∧ (((μ4.1 0 13) ≤ 0 → X10_expression_at96 d x1 μ4 μ') ∧ (¬ (μ4.1 0 13) ≤ 0 → μ' = μ4)))) ∧ (¬ y3 = 0 → (((μ1.1 0 12) ≠ 6 → (∀ μ6 : Mem, μ6 = sI μ1 0 12 ((μ1.1 0 12) + 1) → (∃ (μ7 : Mem), X10_goesOn d μ6 μ7 ∧ vp_in (μ7.1 0 46) 64 ∧ (∀ μ9 : Mem, μ9 = sI μ7 30 ((μ7.1 0 46).toNatClampNeg) 6 → (∀ μ10 : Mem, μ10 = sI μ9 0 46 ((μ9.1 0 46) + 1) → X10_expression_at23 d x1 μ10 μ'))))) ∧ ((μ1.1 0 12) = 6 → (∃ (μ11 : Mem), X10_fail d 2 μ1 μ11 ∧ (∀ μ13 : Mem, μ13 = sI μ11 0 12 ((μ11.1 0 12) + 1) → (∃ (μ14 : Mem), X10_goesOn d μ13 μ14 ∧ vp_in (μ14.1 0 46) 64 ∧ (∀ μ16 : Mem, μ16 = sI μ14 30 ((μ14.1 0 46).toNatClampNeg) 6 → (∀ μ17 : Mem, μ17 = sI μ16 0 46 ((μ16.1 0 46) + 1) → X10_expression_at23 d x1 μ17 μ'))))))))))) : X10_expression_at23 d x1 μ μ' := by
  refine Ev_aload_n dX10_expression_23 rfl ?_
  refine Ev_bipush 6 dX10_expression_24 (by decide) ?_
  obtain ⟨y3, μ1, hM2, h⟩ := h
  refine Ev_callV [_] mlX10_227 rfl rfl (Nat.le_of_ble_eq_true rfl) dX10_expression_26 hM2 ?_
  refine Ev_if_eq 84 dX10_expression_29 (by decide) (fun q => ?_) (fun q => ?_)
  · have h := h.1 q
    refine Ev_aload_n dX10_expression_84 rfl ?_
    obtain ⟨μ4, hM5, h⟩ := h
    refine Ev_callV [] mlX10_312 rfl rfl (Nat.le_of_ble_eq_true rfl) dX10_expression_85 hM5 ?_
    refine Ev_aload_n dX10_expression_88 rfl ?_
    refine Ev_getI flX10_209 rfl dX10_expression_89 ?_
    refine Ev_if_le 96 dX10_expression_92 (by decide) (fun q => ?_) (fun q => ?_)
    · have h := h.1 q
      exact h
    · have h := h.2 q
      subst h
      exact R_v rfl dX10_expression_95
  · have h := h.2 q
    refine Ev_aload_n dX10_expression_32 rfl ?_
    refine Ev_getI flX10_236 rfl dX10_expression_33 ?_
    refine Ev_bipush 6 dX10_expression_36 (by decide) ?_
    refine Ev_icmp_ne 46 dX10_expression_38 (by decide) (fun q => ?_) (fun q => ?_)
    · have h := h.1 q
      refine Ev_aload_n dX10_expression_46 rfl ?_
      refine Ev_dup dX10_expression_47 (fun _ z => by cases z) ?_
      refine Ev_getI flX10_236 rfl dX10_expression_48 ?_
      refine Ev_iconst 1 dX10_expression_51 (by decide) ?_
      refine Ev_iadd dX10_expression_52 ?_
      refine Ev_putI .int flX10_236 fpX10_12 rfl rfl rfl dX10_expression_53 ?_
      have h := h _ rfl
      refine Ev_aload_n dX10_expression_56 rfl ?_
      obtain ⟨μ7, hM8, h⟩ := h
      refine Ev_callV [] mlX10_230 rfl rfl (Nat.le_of_ble_eq_true rfl) dX10_expression_57 hM8 ?_
      refine Ev_aload_n dX10_expression_60 rfl ?_
      refine Ev_getF 11 64 30 flX10_107 rfl dX10_expression_61 ?_
      refine Ev_aload_n dX10_expression_64 rfl ?_
      refine Ev_getI flX10_306 rfl dX10_expression_65 ?_
      refine Ev_bipush 6 dX10_expression_68 (by decide) ?_
      obtain ⟨g, h⟩ := h
      refine Ev_iast g dX10_expression_70 ?_
      have h := h _ rfl
      refine Ev_aload_n dX10_expression_71 rfl ?_
      refine Ev_dup dX10_expression_72 (fun _ z => by cases z) ?_
      refine Ev_getI flX10_306 rfl dX10_expression_73 ?_
      refine Ev_iconst 1 dX10_expression_76 (by decide) ?_
      refine Ev_iadd dX10_expression_77 ?_
      refine Ev_putI .int flX10_306 fpX10_46 rfl rfl rfl dX10_expression_78 ?_
      have h := h _ rfl
      refine Ev_goto 23 dX10_expression_81 (by decide) ?_
      exact h
    · have h := h.2 q
      refine Ev_aload_n dX10_expression_41 rfl ?_
      refine Ev_iconst 2 dX10_expression_42 (by decide) ?_
      obtain ⟨μ11, hM12, h⟩ := h
      refine Ev_callV [_] mlX10_224 rfl rfl (Nat.le_of_ble_eq_true rfl) dX10_expression_43 hM12 ?_
      refine Ev_aload_n dX10_expression_46 rfl ?_
      refine Ev_dup dX10_expression_47 (fun _ z => by cases z) ?_
      refine Ev_getI flX10_236 rfl dX10_expression_48 ?_
      refine Ev_iconst 1 dX10_expression_51 (by decide) ?_
      refine Ev_iadd dX10_expression_52 ?_
      refine Ev_putI .int flX10_236 fpX10_12 rfl rfl rfl dX10_expression_53 ?_
      have h := h _ rfl
      refine Ev_aload_n dX10_expression_56 rfl ?_
      obtain ⟨μ14, hM15, h⟩ := h
      refine Ev_callV [] mlX10_230 rfl rfl (Nat.le_of_ble_eq_true rfl) dX10_expression_57 hM15 ?_
      refine Ev_aload_n dX10_expression_60 rfl ?_
      refine Ev_getF 11 64 30 flX10_107 rfl dX10_expression_61 ?_
      refine Ev_aload_n dX10_expression_64 rfl ?_
      refine Ev_getI flX10_306 rfl dX10_expression_65 ?_
      refine Ev_bipush 6 dX10_expression_68 (by decide) ?_
      obtain ⟨g, h⟩ := h
      refine Ev_iast g dX10_expression_70 ?_
      have h := h _ rfl
      refine Ev_aload_n dX10_expression_71 rfl ?_
      refine Ev_dup dX10_expression_72 (fun _ z => by cases z) ?_
      refine Ev_getI flX10_306 rfl dX10_expression_73 ?_
      refine Ev_iconst 1 dX10_expression_76 (by decide) ?_
      refine Ev_iadd dX10_expression_77 ?_
      refine Ev_putI .int flX10_306 fpX10_46 rfl rfl rfl dX10_expression_78 ?_
      have h := h _ rfl
      refine Ev_goto 23 dX10_expression_81 (by decide) ?_
      exact h
set_option maxHeartbeats 4000000 in
set_option maxRecDepth 100000 in
theorem X10_expression_at96_ok {d : Nat} {x1 : Int32} {μ μ' : Mem} (h : (∃ (y3 : Int32) (μ1 : Mem), X10_is d 7 μ y3 μ1 ∧ ((y3 = 0 → (∃ (y6 : Int32) (μ4 : Mem), X10_is d 8 μ1 y6 μ4 ∧ ((y6 ≠ 0 → X10_expression_at186 d x1 1 μ4 μ') ∧ (y6 = 0 → (∃ (y9 : Int32) (μ7 : Mem), X10_is d 9 μ4 y9 μ7 ∧ ((y9 ≠ 0 → X10_expression_at186 d x1 1 μ7 μ') ∧ (y9 = 0 → (∃ (y12 : Int32) (μ10 : Mem), X10_is d 10 μ7 y12 μ10 ∧ ((y12 ≠ 0 → X10_expression_at186 d x1 1 μ10 μ') ∧ (y12 = 0 → (∃ (y15 : Int32) (μ13 : Mem), X10_is d 15 μ10 y15 μ13 ∧ ((y15 = 0 → X10_expression_at186 d x1 0 μ13 μ') ∧ (¬ y15 = 0 → X10_expression_at186 d x1 1 μ13 μ'))))))))))))) ∧ (¬ y3 = 0 → (((μ1.1 0 12) ≤ x1 → (∃ (y18 : Int32) (μ16 : Mem), X10_is d 8 μ1 y18 μ16 ∧ ((y18 ≠ 0 → X10_expression_at186 d x1 1 μ16 μ') ∧ (y18 = 0 → (∃ (y21 : Int32) (μ19 : Mem), X10_is d 9 μ16 y21 μ19 ∧ ((y21 ≠ 0 → X10_expression_at186 d x1 1 μ19 μ') ∧ (y21 = 0 → (∃ (y24 : Int32) (μ22 : Mem), X10_is d 10 μ19 y24 μ22 ∧ ((y24 ≠ 0 → X10_expression_at186 d x1 1 μ22 μ') ∧ (y24 = 0 → (∃ (y27 : Int32) (μ25 : Mem), X10_is d 15 μ22 y27 μ25 ∧ ((y27 = 0 → X10_expression_at186 d x1 0 μ25 μ') ∧ (¬ y27 = 0 → X10_expression_at186 d x1 1 μ25 μ'))))))))))))) ∧ (¬ (μ1.1 0 12) ≤ x1 → (∃ (μ28 : Mem), X10_comesOut d 0 μ1 μ28 ∧ (∀ μ30 : Mem, μ30 = sI μ28 0 46 ((μ28.1 0 46) - 1) → (∀ μ31 : Mem, μ31 = sI μ30 0 12 ((μ30.1 0 12) - 1) → (∃ (μ32 : Mem), X10_goesOn d μ31 μ32 ∧ X10_expression_at96 d x1 μ32 μ')))))))))) : X10_expression_at96 d x1 μ μ' := by
  refine Ev_aload_n dX10_expression_96 rfl ?_
  refine Ev_bipush 7 dX10_expression_97 (by decide) ?_
  obtain ⟨y3, μ1, hM2, h⟩ := h
  refine Ev_callV [_] mlX10_227 rfl rfl (Nat.le_of_ble_eq_true rfl) dX10_expression_99 hM2 ?_
  refine Ev_if_eq 145 dX10_expression_102 (by decide) (fun q => ?_) (fun q => ?_)
  · have h := h.1 q
    refine Ev_aload_n dX10_expression_145 rfl ?_
    refine Ev_bipush 8 dX10_expression_146 (by decide) ?_
    obtain ⟨y6, μ4, hM5, h⟩ := h
    refine Ev_callV [_] mlX10_227 rfl rfl (Nat.le_of_ble_eq_true rfl) dX10_expression_148 hM5 ?_
    refine Ev_if_ne 181 dX10_expression_151 (by decide) (fun q => ?_) (fun q => ?_)
    · have h := h.1 q
      refine Ev_iconst 1 dX10_expression_181 (by decide) ?_
      refine Ev_goto 186 dX10_expression_182 (by decide) ?_
      exact h
    · have h := h.2 q
      refine Ev_aload_n dX10_expression_154 rfl ?_
      refine Ev_bipush 9 dX10_expression_155 (by decide) ?_
      obtain ⟨y9, μ7, hM8, h⟩ := h
      refine Ev_callV [_] mlX10_227 rfl rfl (Nat.le_of_ble_eq_true rfl) dX10_expression_157 hM8 ?_
      refine Ev_if_ne 181 dX10_expression_160 (by decide) (fun q => ?_) (fun q => ?_)
      · have h := h.1 q
        refine Ev_iconst 1 dX10_expression_181 (by decide) ?_
        refine Ev_goto 186 dX10_expression_182 (by decide) ?_
        exact h
      · have h := h.2 q
        refine Ev_aload_n dX10_expression_163 rfl ?_
        refine Ev_bipush 10 dX10_expression_164 (by decide) ?_
        obtain ⟨y12, μ10, hM11, h⟩ := h
        refine Ev_callV [_] mlX10_227 rfl rfl (Nat.le_of_ble_eq_true rfl) dX10_expression_166 hM11 ?_
        refine Ev_if_ne 181 dX10_expression_169 (by decide) (fun q => ?_) (fun q => ?_)
        · have h := h.1 q
          refine Ev_iconst 1 dX10_expression_181 (by decide) ?_
          refine Ev_goto 186 dX10_expression_182 (by decide) ?_
          exact h
        · have h := h.2 q
          refine Ev_aload_n dX10_expression_172 rfl ?_
          refine Ev_bipush 15 dX10_expression_173 (by decide) ?_
          obtain ⟨y15, μ13, hM14, h⟩ := h
          refine Ev_callV [_] mlX10_227 rfl rfl (Nat.le_of_ble_eq_true rfl) dX10_expression_175 hM14 ?_
          refine Ev_if_eq 185 dX10_expression_178 (by decide) (fun q => ?_) (fun q => ?_)
          · have h := h.1 q
            refine Ev_iconst 0 dX10_expression_185 (by decide) ?_
            exact h
          · have h := h.2 q
            refine Ev_iconst 1 dX10_expression_181 (by decide) ?_
            refine Ev_goto 186 dX10_expression_182 (by decide) ?_
            exact h
  · have h := h.2 q
    refine Ev_aload_n dX10_expression_105 rfl ?_
    refine Ev_getI flX10_236 rfl dX10_expression_106 ?_
    refine Ev_iload_n dX10_expression_109 rfl ?_
    refine Ev_icmp_le 145 dX10_expression_110 (by decide) (fun q => ?_) (fun q => ?_)
    · have h := h.1 q
      refine Ev_aload_n dX10_expression_145 rfl ?_
      refine Ev_bipush 8 dX10_expression_146 (by decide) ?_
      obtain ⟨y18, μ16, hM17, h⟩ := h
      refine Ev_callV [_] mlX10_227 rfl rfl (Nat.le_of_ble_eq_true rfl) dX10_expression_148 hM17 ?_
      refine Ev_if_ne 181 dX10_expression_151 (by decide) (fun q => ?_) (fun q => ?_)
      · have h := h.1 q
        refine Ev_iconst 1 dX10_expression_181 (by decide) ?_
        refine Ev_goto 186 dX10_expression_182 (by decide) ?_
        exact h
      · have h := h.2 q
        refine Ev_aload_n dX10_expression_154 rfl ?_
        refine Ev_bipush 9 dX10_expression_155 (by decide) ?_
        obtain ⟨y21, μ19, hM20, h⟩ := h
        refine Ev_callV [_] mlX10_227 rfl rfl (Nat.le_of_ble_eq_true rfl) dX10_expression_157 hM20 ?_
        refine Ev_if_ne 181 dX10_expression_160 (by decide) (fun q => ?_) (fun q => ?_)
        · have h := h.1 q
          refine Ev_iconst 1 dX10_expression_181 (by decide) ?_
          refine Ev_goto 186 dX10_expression_182 (by decide) ?_
          exact h
        · have h := h.2 q
          refine Ev_aload_n dX10_expression_163 rfl ?_
          refine Ev_bipush 10 dX10_expression_164 (by decide) ?_
          obtain ⟨y24, μ22, hM23, h⟩ := h
          refine Ev_callV [_] mlX10_227 rfl rfl (Nat.le_of_ble_eq_true rfl) dX10_expression_166 hM23 ?_
          refine Ev_if_ne 181 dX10_expression_169 (by decide) (fun q => ?_) (fun q => ?_)
          · have h := h.1 q
            refine Ev_iconst 1 dX10_expression_181 (by decide) ?_
            refine Ev_goto 186 dX10_expression_182 (by decide) ?_
            exact h
          · have h := h.2 q
            refine Ev_aload_n dX10_expression_172 rfl ?_
            refine Ev_bipush 15 dX10_expression_173 (by decide) ?_
            obtain ⟨y27, μ25, hM26, h⟩ := h
            refine Ev_callV [_] mlX10_227 rfl rfl (Nat.le_of_ble_eq_true rfl) dX10_expression_175 hM26 ?_
            refine Ev_if_eq 185 dX10_expression_178 (by decide) (fun q => ?_) (fun q => ?_)
            · have h := h.1 q
              refine Ev_iconst 0 dX10_expression_185 (by decide) ?_
              exact h
            · have h := h.2 q
              refine Ev_iconst 1 dX10_expression_181 (by decide) ?_
              refine Ev_goto 186 dX10_expression_182 (by decide) ?_
              exact h
    · have h := h.2 q
      refine Ev_aload_n dX10_expression_113 rfl ?_
      refine Ev_iconst 0 dX10_expression_114 (by decide) ?_
      obtain ⟨μ28, hM29, h⟩ := h
      refine Ev_callV [_] mlX10_315 rfl rfl (Nat.le_of_ble_eq_true rfl) dX10_expression_115 hM29 ?_
      refine Ev_aload_n dX10_expression_118 rfl ?_
      refine Ev_dup dX10_expression_119 (fun _ z => by cases z) ?_
      refine Ev_getI flX10_306 rfl dX10_expression_120 ?_
      refine Ev_iconst 1 dX10_expression_123 (by decide) ?_
      refine Ev_isub dX10_expression_124 ?_
      refine Ev_putI .int flX10_306 fpX10_46 rfl rfl rfl dX10_expression_125 ?_
      have h := h _ rfl
      refine Ev_aload_n dX10_expression_128 rfl ?_
      refine Ev_dup dX10_expression_129 (fun _ z => by cases z) ?_
      refine Ev_getI flX10_236 rfl dX10_expression_130 ?_
      refine Ev_iconst 1 dX10_expression_133 (by decide) ?_
      refine Ev_isub dX10_expression_134 ?_
      refine Ev_putI .int flX10_236 fpX10_12 rfl rfl rfl dX10_expression_135 ?_
      have h := h _ rfl
      refine Ev_aload_n dX10_expression_138 rfl ?_
      obtain ⟨μ32, hM33, h⟩ := h
      refine Ev_callV [] mlX10_230 rfl rfl (Nat.le_of_ble_eq_true rfl) dX10_expression_139 hM33 ?_
      refine Ev_goto 96 dX10_expression_142 (by decide) ?_
      exact h
set_option maxHeartbeats 4000000 in
set_option maxRecDepth 100000 in
theorem X10_expression_at186_ok {d : Nat} {x1 : Int32} {s0 : Int32} {μ μ' : Mem} (h : ((s0 ≠ 0 → (∃ (y3 : Int32) (μ1 : Mem), X10_is d 10 μ y3 μ1 ∧ ((y3 ≠ 0 → (∃ (μ4 : Mem), X10_comesOut d 1 μ1 μ4 ∧ vp_in (μ4.1 0 11) 403 ∧ vp_in (μ4.1 0 46) 64 ∧ (∀ μ6 : Mem, μ6 = sI μ4 30 ((μ4.1 0 46).toNatClampNeg) (μ4.1 3 ((μ4.1 0 11).toNatClampNeg)) → (∀ μ7 : Mem, μ7 = sI μ6 0 46 ((μ6.1 0 46) + 1) → (∃ (μ8 : Mem), X10_goesOn d μ7 μ8 ∧ X10_expression_at12 d x1 s0 μ8 μ'))))) ∧ (y3 = 0 → (∃ (y12 : Int32) (μ10 : Mem), X10_is d 15 μ1 y12 μ10 ∧ ((y12 = 0 → (∃ (μ13 : Mem), X10_comesOut d 0 μ10 μ13 ∧ vp_in (μ13.1 0 11) 403 ∧ vp_in (μ13.1 0 46) 64 ∧ (∀ μ15 : Mem, μ15 = sI μ13 30 ((μ13.1 0 46).toNatClampNeg) (μ13.1 3 ((μ13.1 0 11).toNatClampNeg)) → (∀ μ16 : Mem, μ16 = sI μ15 0 46 ((μ15.1 0 46) + 1) → (∃ (μ17 : Mem), X10_goesOn d μ16 μ17 ∧ X10_expression_at12 d x1 s0 μ17 μ'))))) ∧ (¬ y12 = 0 → (∃ (μ19 : Mem), X10_comesOut d 1 μ10 μ19 ∧ vp_in (μ19.1 0 11) 403 ∧ vp_in (μ19.1 0 46) 64 ∧ (∀ μ21 : Mem, μ21 = sI μ19 30 ((μ19.1 0 46).toNatClampNeg) (μ19.1 3 ((μ19.1 0 11).toNatClampNeg)) → (∀ μ22 : Mem, μ22 = sI μ21 0 46 ((μ21.1 0 46) + 1) → (∃ (μ23 : Mem), X10_goesOn d μ22 μ23 ∧ X10_expression_at12 d x1 s0 μ23 μ'))))))))))) ∧ (s0 = 0 → (((μ.1 0 12) ≤ x1 → X10_expression_at204 d μ μ') ∧ (¬ (μ.1 0 12) ≤ x1 → (∃ (μ25 : Mem), X10_fail d 1 μ μ25 ∧ X10_expression_at204 d μ25 μ')))))) : X10_expression_at186 d x1 s0 μ μ' := by
  refine Ev_istore_n dX10_expression_186 (Nat.le_of_ble_eq_true rfl) (okp_of rfl) ?_
  refine Ev_iload_n dX10_expression_187 rfl ?_
  refine Ev_if_ne 210 dX10_expression_188 (by decide) (fun q => ?_) (fun q => ?_)
  · have h := h.1 q
    refine Ev_aload_n dX10_expression_210 rfl ?_
    refine Ev_aload_n dX10_expression_211 rfl ?_
    refine Ev_bipush 10 dX10_expression_212 (by decide) ?_
    obtain ⟨y3, μ1, hM2, h⟩ := h
    refine Ev_callV [_] mlX10_227 rfl rfl (Nat.le_of_ble_eq_true rfl) dX10_expression_214 hM2 ?_
    refine Ev_if_ne 229 dX10_expression_217 (by decide) (fun q => ?_) (fun q => ?_)
    · have h := h.1 q
      refine Ev_iconst 1 dX10_expression_229 (by decide) ?_
      refine Ev_goto 234 dX10_expression_230 (by decide) ?_
      obtain ⟨μ4, hM5, h⟩ := h
      refine Ev_callV [_] mlX10_315 rfl rfl (Nat.le_of_ble_eq_true rfl) dX10_expression_234 hM5 ?_
      refine Ev_aload_n dX10_expression_237 rfl ?_
      refine Ev_getF 11 64 30 flX10_107 rfl dX10_expression_238 ?_
      refine Ev_aload_n dX10_expression_241 rfl ?_
      refine Ev_getI flX10_306 rfl dX10_expression_242 ?_
      refine Ev_aload_n dX10_expression_245 rfl ?_
      refine Ev_getF 11 403 3 flX10_20 rfl dX10_expression_246 ?_
      refine Ev_aload_n dX10_expression_249 rfl ?_
      refine Ev_getI flX10_212 rfl dX10_expression_250 ?_
      obtain ⟨g, h⟩ := h
      refine Ev_iald g dX10_expression_253 ?_
      obtain ⟨g, h⟩ := h
      refine Ev_iast g dX10_expression_254 ?_
      have h := h _ rfl
      refine Ev_aload_n dX10_expression_255 rfl ?_
      refine Ev_dup dX10_expression_256 (fun _ z => by cases z) ?_
      refine Ev_getI flX10_306 rfl dX10_expression_257 ?_
      refine Ev_iconst 1 dX10_expression_260 (by decide) ?_
      refine Ev_iadd dX10_expression_261 ?_
      refine Ev_putI .int flX10_306 fpX10_46 rfl rfl rfl dX10_expression_262 ?_
      have h := h _ rfl
      refine Ev_aload_n dX10_expression_265 rfl ?_
      obtain ⟨μ8, hM9, h⟩ := h
      refine Ev_callV [] mlX10_230 rfl rfl (Nat.le_of_ble_eq_true rfl) dX10_expression_266 hM9 ?_
      refine Ev_goto 12 dX10_expression_269 (by decide) ?_
      exact h
    · have h := h.2 q
      refine Ev_aload_n dX10_expression_220 rfl ?_
      refine Ev_bipush 15 dX10_expression_221 (by decide) ?_
      obtain ⟨y12, μ10, hM11, h⟩ := h
      refine Ev_callV [_] mlX10_227 rfl rfl (Nat.le_of_ble_eq_true rfl) dX10_expression_223 hM11 ?_
      refine Ev_if_eq 233 dX10_expression_226 (by decide) (fun q => ?_) (fun q => ?_)
      · have h := h.1 q
        refine Ev_iconst 0 dX10_expression_233 (by decide) ?_
        obtain ⟨μ13, hM14, h⟩ := h
        refine Ev_callV [_] mlX10_315 rfl rfl (Nat.le_of_ble_eq_true rfl) dX10_expression_234 hM14 ?_
        refine Ev_aload_n dX10_expression_237 rfl ?_
        refine Ev_getF 11 64 30 flX10_107 rfl dX10_expression_238 ?_
        refine Ev_aload_n dX10_expression_241 rfl ?_
        refine Ev_getI flX10_306 rfl dX10_expression_242 ?_
        refine Ev_aload_n dX10_expression_245 rfl ?_
        refine Ev_getF 11 403 3 flX10_20 rfl dX10_expression_246 ?_
        refine Ev_aload_n dX10_expression_249 rfl ?_
        refine Ev_getI flX10_212 rfl dX10_expression_250 ?_
        obtain ⟨g, h⟩ := h
        refine Ev_iald g dX10_expression_253 ?_
        obtain ⟨g, h⟩ := h
        refine Ev_iast g dX10_expression_254 ?_
        have h := h _ rfl
        refine Ev_aload_n dX10_expression_255 rfl ?_
        refine Ev_dup dX10_expression_256 (fun _ z => by cases z) ?_
        refine Ev_getI flX10_306 rfl dX10_expression_257 ?_
        refine Ev_iconst 1 dX10_expression_260 (by decide) ?_
        refine Ev_iadd dX10_expression_261 ?_
        refine Ev_putI .int flX10_306 fpX10_46 rfl rfl rfl dX10_expression_262 ?_
        have h := h _ rfl
        refine Ev_aload_n dX10_expression_265 rfl ?_
        obtain ⟨μ17, hM18, h⟩ := h
        refine Ev_callV [] mlX10_230 rfl rfl (Nat.le_of_ble_eq_true rfl) dX10_expression_266 hM18 ?_
        refine Ev_goto 12 dX10_expression_269 (by decide) ?_
        exact h
      · have h := h.2 q
        refine Ev_iconst 1 dX10_expression_229 (by decide) ?_
        refine Ev_goto 234 dX10_expression_230 (by decide) ?_
        obtain ⟨μ19, hM20, h⟩ := h
        refine Ev_callV [_] mlX10_315 rfl rfl (Nat.le_of_ble_eq_true rfl) dX10_expression_234 hM20 ?_
        refine Ev_aload_n dX10_expression_237 rfl ?_
        refine Ev_getF 11 64 30 flX10_107 rfl dX10_expression_238 ?_
        refine Ev_aload_n dX10_expression_241 rfl ?_
        refine Ev_getI flX10_306 rfl dX10_expression_242 ?_
        refine Ev_aload_n dX10_expression_245 rfl ?_
        refine Ev_getF 11 403 3 flX10_20 rfl dX10_expression_246 ?_
        refine Ev_aload_n dX10_expression_249 rfl ?_
        refine Ev_getI flX10_212 rfl dX10_expression_250 ?_
        obtain ⟨g, h⟩ := h
        refine Ev_iald g dX10_expression_253 ?_
        obtain ⟨g, h⟩ := h
        refine Ev_iast g dX10_expression_254 ?_
        have h := h _ rfl
        refine Ev_aload_n dX10_expression_255 rfl ?_
        refine Ev_dup dX10_expression_256 (fun _ z => by cases z) ?_
        refine Ev_getI flX10_306 rfl dX10_expression_257 ?_
        refine Ev_iconst 1 dX10_expression_260 (by decide) ?_
        refine Ev_iadd dX10_expression_261 ?_
        refine Ev_putI .int flX10_306 fpX10_46 rfl rfl rfl dX10_expression_262 ?_
        have h := h _ rfl
        refine Ev_aload_n dX10_expression_265 rfl ?_
        obtain ⟨μ23, hM24, h⟩ := h
        refine Ev_callV [] mlX10_230 rfl rfl (Nat.le_of_ble_eq_true rfl) dX10_expression_266 hM24 ?_
        refine Ev_goto 12 dX10_expression_269 (by decide) ?_
        exact h
  · have h := h.2 q
    refine Ev_aload_n dX10_expression_191 rfl ?_
    refine Ev_getI flX10_236 rfl dX10_expression_192 ?_
    refine Ev_iload_n dX10_expression_195 rfl ?_
    refine Ev_icmp_le 204 dX10_expression_196 (by decide) (fun q => ?_) (fun q => ?_)
    · have h := h.1 q
      refine Ev_weak ?_ h
      exact And.intro rfl (And.intro trivial (And.intro trivial (trivial)))
    · have h := h.2 q
      refine Ev_aload_n dX10_expression_199 rfl ?_
      refine Ev_iconst 1 dX10_expression_200 (by decide) ?_
      obtain ⟨μ25, hM26, h⟩ := h
      refine Ev_callV [_] mlX10_224 rfl rfl (Nat.le_of_ble_eq_true rfl) dX10_expression_201 hM26 ?_
      refine Ev_weak ?_ h
      exact And.intro rfl (And.intro trivial (And.intro trivial (trivial)))
set_option maxHeartbeats 4000000 in
set_option maxRecDepth 100000 in
theorem X10_expression_at204_ok {d : Nat}  {μ μ' : Mem} (h : (∃ (μ1 : Mem), X10_comesOut d 0 μ μ1 ∧ μ' = μ1)) : X10_expression_at204 d μ μ' := by
  refine Ev_aload_n dX10_expression_204 rfl ?_
  refine Ev_iconst 0 dX10_expression_205 (by decide) ?_
  obtain ⟨μ1, hM2, h⟩ := h
  refine Ev_callV [_] mlX10_315 rfl rfl (Nat.le_of_ble_eq_true rfl) dX10_expression_206 hM2 ?_
  subst h
  exact R_v rfl dX10_expression_209
set_option maxHeartbeats 4000000 in
set_option maxRecDepth 100000 in
theorem X10_fail_ok {d : Nat} {x1 : Int32} {μ μ' : Mem} (h : (((μ.1 0 13) ≤ 0 → (∀ μ1 : Mem, μ1 = sI μ 0 13 x1 → vp_in (μ1.1 0 11) 403 ∧ (∀ μ2 : Mem, μ2 = sI μ1 0 14 (μ1.1 4 ((μ1.1 0 11).toNatClampNeg)) → μ' = μ2))) ∧ (¬ (μ.1 0 13) ≤ 0 → μ' = μ))) : X10_fail d x1 μ μ' := by
  refine Me_of [some (vr 10 0 0), some (vi x1)] rfl (Nat.le_of_ble_eq_true rfl) (by decide) ?_
  refine Ev_aload_n dX10_fail_0 rfl ?_
  refine Ev_getI flX10_209 rfl dX10_fail_1 ?_
  refine Ev_if_le 8 dX10_fail_4 (by decide) (fun q => ?_) (fun q => ?_)
  · have h := h.1 q
    refine Ev_aload_n dX10_fail_8 rfl ?_
    refine Ev_iload_n dX10_fail_9 rfl ?_
    refine Ev_putI .int flX10_209 fpX10_13 rfl rfl rfl dX10_fail_10 ?_
    have h := h _ rfl
    refine Ev_aload_n dX10_fail_13 rfl ?_
    refine Ev_aload_n dX10_fail_14 rfl ?_
    refine Ev_getF 11 403 4 flX10_24 rfl dX10_fail_15 ?_
    refine Ev_aload_n dX10_fail_18 rfl ?_
    refine Ev_getI flX10_212 rfl dX10_fail_19 ?_
    obtain ⟨g, h⟩ := h
    refine Ev_iald g dX10_fail_22 ?_
    refine Ev_putI .int flX10_215 fpX10_14 rfl rfl rfl dX10_fail_23 ?_
    have h := h _ rfl
    subst h
    exact R_v rfl dX10_fail_26
  · have h := h.2 q
    subst h
    exact R_v rfl dX10_fail_7
set_option maxHeartbeats 4000000 in
set_option maxRecDepth 100000 in
theorem X10_fall_ok {d : Nat} {x1 : Int32} {x2 : Int32} {x3 : Int32} {x4 : Int32} {x5 : Int32} {μ μ' : Mem} {x : Int32} (h : (∃ (y3 : Int32) (μ1 : Mem), X10_isPiece d x1 x2 x3 μ y3 μ1 ∧ ((y3 = 0 → (x = (-1) ∧ μ' = μ1)) ∧ (¬ y3 = 0 → (∃ (y6 : Int32) (μ4 : Mem), X10_isCell d x4 x5 μ1 y6 μ4 ∧ ((y6 ≠ 0 → (∃ (μ7 : Mem), X10_copies d μ4 μ7 ∧ (∃ (y11 : Int32) (μ9 : Mem), X10_falls d x1 x2 x3 x4 x5 μ7 y11 μ9 ∧ (∃ (μ12 : Mem), X10_keeps d μ9 μ12 ∧ (x = y11 ∧ μ' = μ12))))) ∧ (y6 = 0 → (x = (-1) ∧ μ' = μ4)))))))) : X10_fall (d + 1) x1 x2 x3 x4 x5 μ x μ' := by
  refine Me_of [some (vr 10 0 0), some (vi x1), some (vi x2), some (vi x3), some (vi x4), some (vi x5), none] rfl (Nat.le_of_ble_eq_true rfl) (by decide) ?_
  refine Ev_aload_n dX10_fall_0 rfl ?_
  refine Ev_iload_n dX10_fall_1 rfl ?_
  refine Ev_iload_n dX10_fall_2 rfl ?_
  refine Ev_iload_n dX10_fall_3 rfl ?_
  obtain ⟨y3, μ1, hM2, h⟩ := h
  refine Ev_callV [_, _, _] mlX10_396 rfl rfl (Nat.le_of_ble_eq_true rfl) dX10_fall_4 hM2 ?_
  refine Ev_if_eq 21 dX10_fall_7 (by decide) (fun q => ?_) (fun q => ?_)
  · have h := h.1 q
    refine Ev_iconst (-1) dX10_fall_21 (by decide) ?_
    obtain ⟨rfl, rfl⟩ := h
    exact R_i rfl dX10_fall_22 rfl
  · have h := h.2 q
    refine Ev_aload_n dX10_fall_10 rfl ?_
    refine Ev_iload dX10_fall_11 rfl ?_
    refine Ev_iload dX10_fall_13 rfl ?_
    obtain ⟨y6, μ4, hM5, h⟩ := h
    refine Ev_callV [_, _] mlX10_343 rfl rfl (Nat.le_of_ble_eq_true rfl) dX10_fall_15 hM5 ?_
    refine Ev_if_ne 23 dX10_fall_18 (by decide) (fun q => ?_) (fun q => ?_)
    · have h := h.1 q
      refine Ev_aload_n dX10_fall_23 rfl ?_
      obtain ⟨μ7, hM8, h⟩ := h
      refine Ev_callV [] mlX10_381 rfl rfl (Nat.le_of_ble_eq_true rfl) dX10_fall_24 hM8 ?_
      refine Ev_aload_n dX10_fall_27 rfl ?_
      refine Ev_iload_n dX10_fall_28 rfl ?_
      refine Ev_iload_n dX10_fall_29 rfl ?_
      refine Ev_iload_n dX10_fall_30 rfl ?_
      refine Ev_iload dX10_fall_31 rfl ?_
      refine Ev_iload dX10_fall_33 rfl ?_
      obtain ⟨y11, μ9, hM10, h⟩ := h
      refine Ev_callV [_, _, _, _, _] mlX10_362 rfl rfl (Nat.le_of_ble_eq_true rfl) dX10_fall_35 hM10 ?_
      refine Ev_istore dX10_fall_38 (Nat.le_of_ble_eq_true rfl) (okp_of rfl) ?_
      refine Ev_aload_n dX10_fall_40 rfl ?_
      obtain ⟨μ12, hM13, h⟩ := h
      refine Ev_callV [] mlX10_399 rfl rfl (Nat.le_of_ble_eq_true rfl) dX10_fall_41 hM13 ?_
      refine Ev_iload dX10_fall_44 rfl ?_
      obtain ⟨rfl, rfl⟩ := h
      exact R_i rfl dX10_fall_46 rfl
    · have h := h.2 q
      refine Ev_iconst (-1) dX10_fall_21 (by decide) ?_
      obtain ⟨rfl, rfl⟩ := h
      exact R_i rfl dX10_fall_22 rfl
set_option maxHeartbeats 4000000 in
set_option maxRecDepth 100000 in
theorem X10_falls_ok {d : Nat} {x1 : Int32} {x2 : Int32} {x3 : Int32} {x4 : Int32} {x5 : Int32} {μ μ' : Mem} {x : Int32} (h : vp_in (48 + x1) 92 ∧ X10_falls_at20 d x1 x2 x3 x4 x5 0 (μ.1 34 ((48 + x1).toNatClampNeg)) 0 0 μ x μ') : X10_falls (d + 1) x1 x2 x3 x4 x5 μ x μ' := by
  refine Me_of [some (vr 10 0 0), some (vi x1), some (vi x2), some (vi x3), some (vi x4), some (vi x5), none, none, none, none, none, none, none, none] rfl (Nat.le_of_ble_eq_true rfl) (by decide) ?_
  refine Ev_iconst 0 dX10_falls_0 (by decide) ?_
  refine Ev_istore dX10_falls_1 (Nat.le_of_ble_eq_true rfl) (okp_of rfl) ?_
  refine Ev_aload_n dX10_falls_3 rfl ?_
  refine Ev_getF 11 92 34 flX10_119 rfl dX10_falls_4 ?_
  refine Ev_bipush 48 dX10_falls_7 (by decide) ?_
  refine Ev_iload_n dX10_falls_9 rfl ?_
  refine Ev_iadd dX10_falls_10 ?_
  obtain ⟨g, h⟩ := h
  refine Ev_iald g dX10_falls_11 ?_
  refine Ev_istore dX10_falls_12 (Nat.le_of_ble_eq_true rfl) (okp_of rfl) ?_
  refine Ev_iconst 0 dX10_falls_14 (by decide) ?_
  refine Ev_istore dX10_falls_15 (Nat.le_of_ble_eq_true rfl) (okp_of rfl) ?_
  refine Ev_iconst 0 dX10_falls_17 (by decide) ?_
  refine Ev_istore dX10_falls_18 (Nat.le_of_ble_eq_true rfl) (okp_of rfl) ?_
  exact h
set_option maxHeartbeats 4000000 in
set_option maxRecDepth 100000 in
theorem X10_falls_at20_ok {d : Nat} {x1 : Int32} {x2 : Int32} {x3 : Int32} {x4 : Int32} {x5 : Int32} {x6 : Int32} {x7 : Int32} {x8 : Int32} {x9 : Int32} {μ μ' : Mem} {x : Int32} (h : (((x2 * x3) ≤ x9 → vp_in (48 + x1) 92 ∧ (∀ μ1 : Mem, μ1 = sI μ 34 ((48 + x1).toNatClampNeg) (x7 + x3) → vp_in (68 + x1) 92 ∧ vp_in (68 + x1) 92 ∧ (∀ μ2 : Mem, μ2 = sI μ1 34 ((68 + x1).toNatClampNeg) ((μ1.1 34 ((68 + x1).toNatClampNeg)) + x6) → ((x8 = 0 → (∀ μ3 : Mem, μ3 = sI μ2 34 90 ((μ2.1 34 90) + x6) → (x = x6 ∧ μ' = μ3))) ∧ (¬ x8 = 0 → vp_in (72 + x1) 92 ∧ vp_in (72 + x1) 92 ∧ (∀ μ4 : Mem, μ4 = sI μ2 34 ((72 + x1).toNatClampNeg) ((μ2.1 34 ((72 + x1).toNatClampNeg)) + 1) → (∀ μ5 : Mem, μ5 = sI μ4 34 90 ((μ4.1 34 90) + x6) → (x = x6 ∧ μ' = μ5)))))))) ∧ (¬ (x2 * x3) ≤ x9 → ((x8 ≠ 0 → vp_in (48 + x1) 92 ∧ (∀ μ6 : Mem, μ6 = sI μ 34 ((48 + x1).toNatClampNeg) (x7 + x3) → vp_in (68 + x1) 92 ∧ vp_in (68 + x1) 92 ∧ (∀ μ7 : Mem, μ7 = sI μ6 34 ((68 + x1).toNatClampNeg) ((μ6.1 34 ((68 + x1).toNatClampNeg)) + x6) → ((x8 = 0 → (∀ μ8 : Mem, μ8 = sI μ7 34 90 ((μ7.1 34 90) + x6) → (x = x6 ∧ μ' = μ8))) ∧ (¬ x8 = 0 → vp_in (72 + x1) 92 ∧ vp_in (72 + x1) 92 ∧ (∀ μ9 : Mem, μ9 = sI μ7 34 ((72 + x1).toNatClampNeg) ((μ7.1 34 ((72 + x1).toNatClampNeg)) + 1) → (∀ μ10 : Mem, μ10 = sI μ9 34 90 ((μ9.1 34 90) + x6) → (x = x6 ∧ μ' = μ10)))))))) ∧ (x8 = 0 → ¬ x2 = 0 ∧ ¬ x2 = 0 ∧ (∃ (y13 : Int32) (μ11 : Mem), X10_threadOf d x1 (x9 - x9 / x2 * x2) (x7 + (x9 / x2)) μ y13 μ11 ∧ ((y13 ≤ (μ11.1 34 88) → (((0 : Int32) = 0 → (∀ μ14 : Mem, μ14 = sI μ11 34 88 ((μ11.1 34 88) - y13) → ¬ x2 = 0 ∧ ¬ x2 = 0 ∧ (∃ (y17 : Int32) (μ15 : Mem), X10_isCell d (x4 + (x9 - x9 / x2 * x2)) (x5 + (x9 / x2)) μ14 y17 μ15 ∧ ((y17 ≠ 0 → vp_in ((8 * (x5 + (x9 / x2))) + (x4 + (x9 - x9 / x2 * x2))) 92 ∧ ((((μ15.1 34 (((8 * (x5 + (x9 / x2))) + (x4 + (x9 - x9 / x2 * x2))).toNatClampNeg)) + y13) ≤ 999 → vp_in ((8 * (x5 + (x9 / x2))) + (x4 + (x9 - x9 / x2 * x2))) 92 ∧ (∀ μ18 : Mem, μ18 = sI μ15 34 (((8 * (x5 + (x9 / x2))) + (x4 + (x9 - x9 / x2 * x2))).toNatClampNeg) ((μ15.1 34 (((8 * (x5 + (x9 / x2))) + (x4 + (x9 - x9 / x2 * x2))).toNatClampNeg)) + y13) → X10_falls_at20 d x1 x2 x3 x4 x5 (x6 + y13) x7 0 (x9 + 1) μ18 x μ')) ∧ (¬ ((μ15.1 34 (((8 * (x5 + (x9 / x2))) + (x4 + (x9 - x9 / x2 * x2))).toNatClampNeg)) + y13) ≤ 999 → vp_in ((8 * (x5 + (x9 / x2))) + (x4 + (x9 - x9 / x2 * x2))) 92 ∧ (∀ μ19 : Mem, μ19 = sI μ15 34 (((8 * (x5 + (x9 / x2))) + (x4 + (x9 - x9 / x2 * x2))).toNatClampNeg) 999 → X10_falls_at20 d x1 x2 x3 x4 x5 (x6 + y13) x7 0 (x9 + 1) μ19 x μ')))) ∧ (y17 = 0 → X10_falls_at20 d x1 x2 x3 x4 x5 (x6 + y13) x7 0 (x9 + 1) μ15 x μ'))))) ∧ (¬ (0 : Int32) = 0 → X10_falls_at20 d x1 x2 x3 x4 x5 x6 x7 0 (x9 + 1) μ11 x μ'))) ∧ (¬ y13 ≤ (μ11.1 34 88) → (((1 : Int32) = 0 → (∀ μ20 : Mem, μ20 = sI μ11 34 88 ((μ11.1 34 88) - y13) → ¬ x2 = 0 ∧ ¬ x2 = 0 ∧ (∃ (y23 : Int32) (μ21 : Mem), X10_isCell d (x4 + (x9 - x9 / x2 * x2)) (x5 + (x9 / x2)) μ20 y23 μ21 ∧ ((y23 ≠ 0 → vp_in ((8 * (x5 + (x9 / x2))) + (x4 + (x9 - x9 / x2 * x2))) 92 ∧ ((((μ21.1 34 (((8 * (x5 + (x9 / x2))) + (x4 + (x9 - x9 / x2 * x2))).toNatClampNeg)) + y13) ≤ 999 → vp_in ((8 * (x5 + (x9 / x2))) + (x4 + (x9 - x9 / x2 * x2))) 92 ∧ (∀ μ24 : Mem, μ24 = sI μ21 34 (((8 * (x5 + (x9 / x2))) + (x4 + (x9 - x9 / x2 * x2))).toNatClampNeg) ((μ21.1 34 (((8 * (x5 + (x9 / x2))) + (x4 + (x9 - x9 / x2 * x2))).toNatClampNeg)) + y13) → X10_falls_at20 d x1 x2 x3 x4 x5 (x6 + y13) x7 1 (x9 + 1) μ24 x μ')) ∧ (¬ ((μ21.1 34 (((8 * (x5 + (x9 / x2))) + (x4 + (x9 - x9 / x2 * x2))).toNatClampNeg)) + y13) ≤ 999 → vp_in ((8 * (x5 + (x9 / x2))) + (x4 + (x9 - x9 / x2 * x2))) 92 ∧ (∀ μ25 : Mem, μ25 = sI μ21 34 (((8 * (x5 + (x9 / x2))) + (x4 + (x9 - x9 / x2 * x2))).toNatClampNeg) 999 → X10_falls_at20 d x1 x2 x3 x4 x5 (x6 + y13) x7 1 (x9 + 1) μ25 x μ')))) ∧ (y23 = 0 → X10_falls_at20 d x1 x2 x3 x4 x5 (x6 + y13) x7 1 (x9 + 1) μ21 x μ'))))) ∧ (¬ (1 : Int32) = 0 → X10_falls_at20 d x1 x2 x3 x4 x5 x6 x7 1 (x9 + 1) μ11 x μ')))))))))) : X10_falls_at20 d x1 x2 x3 x4 x5 x6 x7 x8 x9 μ x μ' := by
  refine Ev_iload dX10_falls_20 rfl ?_
  refine Ev_iload_n dX10_falls_22 rfl ?_
  refine Ev_iload_n dX10_falls_23 rfl ?_
  refine Ev_imul dX10_falls_24 ?_
  refine Ev_icmp_ge 182 dX10_falls_25 (by decide) (fun q => ?_) (fun q => ?_)
  · have h := h.1 q
    refine Ev_aload_n dX10_falls_182 rfl ?_
    refine Ev_getF 11 92 34 flX10_119 rfl dX10_falls_183 ?_
    refine Ev_bipush 48 dX10_falls_186 (by decide) ?_
    refine Ev_iload_n dX10_falls_188 rfl ?_
    refine Ev_iadd dX10_falls_189 ?_
    refine Ev_iload dX10_falls_190 rfl ?_
    refine Ev_iload_n dX10_falls_192 rfl ?_
    refine Ev_iadd dX10_falls_193 ?_
    obtain ⟨g, h⟩ := h
    refine Ev_iast g dX10_falls_194 ?_
    have h := h _ rfl
    refine Ev_aload_n dX10_falls_195 rfl ?_
    refine Ev_getF 11 92 34 flX10_119 rfl dX10_falls_196 ?_
    refine Ev_bipush 68 dX10_falls_199 (by decide) ?_
    refine Ev_iload_n dX10_falls_201 rfl ?_
    refine Ev_iadd dX10_falls_202 ?_
    refine Ev_dup2 dX10_falls_203 ?_
    obtain ⟨g, h⟩ := h
    refine Ev_iald g dX10_falls_204 ?_
    refine Ev_iload dX10_falls_205 rfl ?_
    refine Ev_iadd dX10_falls_207 ?_
    obtain ⟨g, h⟩ := h
    refine Ev_iast g dX10_falls_208 ?_
    have h := h _ rfl
    refine Ev_iload dX10_falls_209 rfl ?_
    refine Ev_if_eq 227 dX10_falls_211 (by decide) (fun q => ?_) (fun q => ?_)
    · have h := h.1 q
      refine Ev_aload_n dX10_falls_227 rfl ?_
      refine Ev_getF 11 92 34 flX10_119 rfl dX10_falls_228 ?_
      refine Ev_bipush 90 dX10_falls_231 (by decide) ?_
      refine Ev_dup2 dX10_falls_233 ?_
      refine Ev_iald (n := 92) (vp_lit (by decide)) dX10_falls_234 ?_
      refine Ev_iload dX10_falls_235 rfl ?_
      refine Ev_iadd dX10_falls_237 ?_
      refine Ev_iast (n := 92) (vp_lit (by decide)) dX10_falls_238 ?_
      have h := h _ rfl
      refine Ev_iload dX10_falls_239 rfl ?_
      obtain ⟨rfl, rfl⟩ := h
      exact R_i rfl dX10_falls_241 rfl
    · have h := h.2 q
      refine Ev_aload_n dX10_falls_214 rfl ?_
      refine Ev_getF 11 92 34 flX10_119 rfl dX10_falls_215 ?_
      refine Ev_bipush 72 dX10_falls_218 (by decide) ?_
      refine Ev_iload_n dX10_falls_220 rfl ?_
      refine Ev_iadd dX10_falls_221 ?_
      refine Ev_dup2 dX10_falls_222 ?_
      obtain ⟨g, h⟩ := h
      refine Ev_iald g dX10_falls_223 ?_
      refine Ev_iconst 1 dX10_falls_224 (by decide) ?_
      refine Ev_iadd dX10_falls_225 ?_
      obtain ⟨g, h⟩ := h
      refine Ev_iast g dX10_falls_226 ?_
      have h := h _ rfl
      refine Ev_aload_n dX10_falls_227 rfl ?_
      refine Ev_getF 11 92 34 flX10_119 rfl dX10_falls_228 ?_
      refine Ev_bipush 90 dX10_falls_231 (by decide) ?_
      refine Ev_dup2 dX10_falls_233 ?_
      refine Ev_iald (n := 92) (vp_lit (by decide)) dX10_falls_234 ?_
      refine Ev_iload dX10_falls_235 rfl ?_
      refine Ev_iadd dX10_falls_237 ?_
      refine Ev_iast (n := 92) (vp_lit (by decide)) dX10_falls_238 ?_
      have h := h _ rfl
      refine Ev_iload dX10_falls_239 rfl ?_
      obtain ⟨rfl, rfl⟩ := h
      exact R_i rfl dX10_falls_241 rfl
  · have h := h.2 q
    refine Ev_iload dX10_falls_28 rfl ?_
    refine Ev_if_ne 182 dX10_falls_30 (by decide) (fun q => ?_) (fun q => ?_)
    · have h := h.1 q
      refine Ev_aload_n dX10_falls_182 rfl ?_
      refine Ev_getF 11 92 34 flX10_119 rfl dX10_falls_183 ?_
      refine Ev_bipush 48 dX10_falls_186 (by decide) ?_
      refine Ev_iload_n dX10_falls_188 rfl ?_
      refine Ev_iadd dX10_falls_189 ?_
      refine Ev_iload dX10_falls_190 rfl ?_
      refine Ev_iload_n dX10_falls_192 rfl ?_
      refine Ev_iadd dX10_falls_193 ?_
      obtain ⟨g, h⟩ := h
      refine Ev_iast g dX10_falls_194 ?_
      have h := h _ rfl
      refine Ev_aload_n dX10_falls_195 rfl ?_
      refine Ev_getF 11 92 34 flX10_119 rfl dX10_falls_196 ?_
      refine Ev_bipush 68 dX10_falls_199 (by decide) ?_
      refine Ev_iload_n dX10_falls_201 rfl ?_
      refine Ev_iadd dX10_falls_202 ?_
      refine Ev_dup2 dX10_falls_203 ?_
      obtain ⟨g, h⟩ := h
      refine Ev_iald g dX10_falls_204 ?_
      refine Ev_iload dX10_falls_205 rfl ?_
      refine Ev_iadd dX10_falls_207 ?_
      obtain ⟨g, h⟩ := h
      refine Ev_iast g dX10_falls_208 ?_
      have h := h _ rfl
      refine Ev_iload dX10_falls_209 rfl ?_
      refine Ev_if_eq 227 dX10_falls_211 (by decide) (fun q => ?_) (fun q => ?_)
      · have h := h.1 q
        refine Ev_aload_n dX10_falls_227 rfl ?_
        refine Ev_getF 11 92 34 flX10_119 rfl dX10_falls_228 ?_
        refine Ev_bipush 90 dX10_falls_231 (by decide) ?_
        refine Ev_dup2 dX10_falls_233 ?_
        refine Ev_iald (n := 92) (vp_lit (by decide)) dX10_falls_234 ?_
        refine Ev_iload dX10_falls_235 rfl ?_
        refine Ev_iadd dX10_falls_237 ?_
        refine Ev_iast (n := 92) (vp_lit (by decide)) dX10_falls_238 ?_
        have h := h _ rfl
        refine Ev_iload dX10_falls_239 rfl ?_
        obtain ⟨rfl, rfl⟩ := h
        exact R_i rfl dX10_falls_241 rfl
      · have h := h.2 q
        refine Ev_aload_n dX10_falls_214 rfl ?_
        refine Ev_getF 11 92 34 flX10_119 rfl dX10_falls_215 ?_
        refine Ev_bipush 72 dX10_falls_218 (by decide) ?_
        refine Ev_iload_n dX10_falls_220 rfl ?_
        refine Ev_iadd dX10_falls_221 ?_
        refine Ev_dup2 dX10_falls_222 ?_
        obtain ⟨g, h⟩ := h
        refine Ev_iald g dX10_falls_223 ?_
        refine Ev_iconst 1 dX10_falls_224 (by decide) ?_
        refine Ev_iadd dX10_falls_225 ?_
        obtain ⟨g, h⟩ := h
        refine Ev_iast g dX10_falls_226 ?_
        have h := h _ rfl
        refine Ev_aload_n dX10_falls_227 rfl ?_
        refine Ev_getF 11 92 34 flX10_119 rfl dX10_falls_228 ?_
        refine Ev_bipush 90 dX10_falls_231 (by decide) ?_
        refine Ev_dup2 dX10_falls_233 ?_
        refine Ev_iald (n := 92) (vp_lit (by decide)) dX10_falls_234 ?_
        refine Ev_iload dX10_falls_235 rfl ?_
        refine Ev_iadd dX10_falls_237 ?_
        refine Ev_iast (n := 92) (vp_lit (by decide)) dX10_falls_238 ?_
        have h := h _ rfl
        refine Ev_iload dX10_falls_239 rfl ?_
        obtain ⟨rfl, rfl⟩ := h
        exact R_i rfl dX10_falls_241 rfl
    · have h := h.2 q
      refine Ev_aload_n dX10_falls_33 rfl ?_
      refine Ev_iload_n dX10_falls_34 rfl ?_
      refine Ev_iload dX10_falls_35 rfl ?_
      refine Ev_iload_n dX10_falls_37 rfl ?_
      obtain ⟨g, h⟩ := h
      refine Ev_irem dX10_falls_38 g ?_
      refine Ev_iload dX10_falls_39 rfl ?_
      refine Ev_iload dX10_falls_41 rfl ?_
      refine Ev_iload_n dX10_falls_43 rfl ?_
      obtain ⟨g, h⟩ := h
      refine Ev_idiv dX10_falls_44 g ?_
      refine Ev_iadd dX10_falls_45 ?_
      obtain ⟨y13, μ11, hM12, h⟩ := h
      refine Ev_callV [_, _, _] mlX10_356 rfl rfl (Nat.le_of_ble_eq_true rfl) dX10_falls_46 hM12 ?_
      refine Ev_istore dX10_falls_49 (Nat.le_of_ble_eq_true rfl) (okp_of rfl) ?_
      refine Ev_iload dX10_falls_51 rfl ?_
      refine Ev_aload_n dX10_falls_53 rfl ?_
      refine Ev_getF 11 92 34 flX10_119 rfl dX10_falls_54 ?_
      refine Ev_bipush 88 dX10_falls_57 (by decide) ?_
      refine Ev_iald (n := 92) (vp_lit (by decide)) dX10_falls_59 ?_
      refine Ev_icmp_le 67 dX10_falls_60 (by decide) (fun q => ?_) (fun q => ?_)
      · have h := h.1 q
        refine Ev_iconst 0 dX10_falls_67 (by decide) ?_
        refine Ev_istore dX10_falls_68 (Nat.le_of_ble_eq_true rfl) (okp_of rfl) ?_
        refine Ev_iload dX10_falls_70 rfl ?_
        refine Ev_if_eq 78 dX10_falls_72 (by decide) (fun q => ?_) (fun q => ?_)
        · have h := h.1 q
          refine Ev_aload_n dX10_falls_78 rfl ?_
          refine Ev_getF 11 92 34 flX10_119 rfl dX10_falls_79 ?_
          refine Ev_bipush 88 dX10_falls_82 (by decide) ?_
          refine Ev_dup2 dX10_falls_84 ?_
          refine Ev_iald (n := 92) (vp_lit (by decide)) dX10_falls_85 ?_
          refine Ev_iload dX10_falls_86 rfl ?_
          refine Ev_isub dX10_falls_88 ?_
          refine Ev_iast (n := 92) (vp_lit (by decide)) dX10_falls_89 ?_
          have h := h _ rfl
          refine Ev_iload dX10_falls_90 rfl ?_
          refine Ev_iload dX10_falls_92 rfl ?_
          refine Ev_iadd dX10_falls_94 ?_
          refine Ev_istore dX10_falls_95 (Nat.le_of_ble_eq_true rfl) (okp_of rfl) ?_
          refine Ev_iload dX10_falls_97 rfl ?_
          refine Ev_iload dX10_falls_99 rfl ?_
          refine Ev_iload_n dX10_falls_101 rfl ?_
          obtain ⟨g, h⟩ := h
          refine Ev_irem dX10_falls_102 g ?_
          refine Ev_iadd dX10_falls_103 ?_
          refine Ev_istore dX10_falls_104 (Nat.le_of_ble_eq_true rfl) (okp_of rfl) ?_
          refine Ev_iload dX10_falls_106 rfl ?_
          refine Ev_iload dX10_falls_108 rfl ?_
          refine Ev_iload_n dX10_falls_110 rfl ?_
          obtain ⟨g, h⟩ := h
          refine Ev_idiv dX10_falls_111 g ?_
          refine Ev_iadd dX10_falls_112 ?_
          refine Ev_istore dX10_falls_113 (Nat.le_of_ble_eq_true rfl) (okp_of rfl) ?_
          refine Ev_aload_n dX10_falls_115 rfl ?_
          refine Ev_iload dX10_falls_116 rfl ?_
          refine Ev_iload dX10_falls_118 rfl ?_
          obtain ⟨y17, μ15, hM16, h⟩ := h
          refine Ev_callV [_, _] mlX10_343 rfl rfl (Nat.le_of_ble_eq_true rfl) dX10_falls_120 hM16 ?_
          refine Ev_if_ne 129 dX10_falls_123 (by decide) (fun q => ?_) (fun q => ?_)
          · have h := h.1 q
            refine Ev_aload_n dX10_falls_129 rfl ?_
            refine Ev_getF 11 92 34 flX10_119 rfl dX10_falls_130 ?_
            refine Ev_bipush 8 dX10_falls_133 (by decide) ?_
            refine Ev_iload dX10_falls_135 rfl ?_
            refine Ev_imul dX10_falls_137 ?_
            refine Ev_iload dX10_falls_138 rfl ?_
            refine Ev_iadd dX10_falls_140 ?_
            obtain ⟨g, h⟩ := h
            refine Ev_iald g dX10_falls_141 ?_
            refine Ev_iload dX10_falls_142 rfl ?_
            refine Ev_iadd dX10_falls_144 ?_
            refine Ev_istore dX10_falls_145 (Nat.le_of_ble_eq_true rfl) (okp_of rfl) ?_
            refine Ev_aload_n dX10_falls_147 rfl ?_
            refine Ev_getF 11 92 34 flX10_119 rfl dX10_falls_148 ?_
            refine Ev_bipush 8 dX10_falls_151 (by decide) ?_
            refine Ev_iload dX10_falls_153 rfl ?_
            refine Ev_imul dX10_falls_155 ?_
            refine Ev_iload dX10_falls_156 rfl ?_
            refine Ev_iadd dX10_falls_158 ?_
            refine Ev_iload dX10_falls_159 rfl ?_
            refine Ev_sipush 999 dX10_falls_161 (by decide) ?_
            refine Ev_icmp_le 173 dX10_falls_164 (by decide) (fun q => ?_) (fun q => ?_)
            · have h := h.1 q
              refine Ev_iload dX10_falls_173 rfl ?_
              obtain ⟨g, h⟩ := h
              refine Ev_iast g dX10_falls_175 ?_
              have h := h _ rfl
              refine Ev_iinc (x9 + 1) dX10_falls_176 rfl rfl (okp_of rfl) ?_
              refine Ev_goto 20 dX10_falls_179 (by decide) ?_
              refine Ev_weak ?_ h
              exact And.intro rfl (And.intro rfl (And.intro rfl (And.intro rfl (And.intro rfl (And.intro rfl (And.intro rfl (And.intro rfl (And.intro rfl (And.intro rfl (And.intro trivial (And.intro trivial (And.intro trivial (And.intro trivial (trivial))))))))))))))
            · have h := h.2 q
              refine Ev_sipush 999 dX10_falls_167 (by decide) ?_
              refine Ev_goto 175 dX10_falls_170 (by decide) ?_
              obtain ⟨g, h⟩ := h
              refine Ev_iast g dX10_falls_175 ?_
              have h := h _ rfl
              refine Ev_iinc (x9 + 1) dX10_falls_176 rfl rfl (okp_of rfl) ?_
              refine Ev_goto 20 dX10_falls_179 (by decide) ?_
              refine Ev_weak ?_ h
              exact And.intro rfl (And.intro rfl (And.intro rfl (And.intro rfl (And.intro rfl (And.intro rfl (And.intro rfl (And.intro rfl (And.intro rfl (And.intro rfl (And.intro trivial (And.intro trivial (And.intro trivial (And.intro trivial (trivial))))))))))))))
          · have h := h.2 q
            refine Ev_goto 176 dX10_falls_126 (by decide) ?_
            refine Ev_iinc (x9 + 1) dX10_falls_176 rfl rfl (okp_of rfl) ?_
            refine Ev_goto 20 dX10_falls_179 (by decide) ?_
            refine Ev_weak ?_ h
            exact And.intro rfl (And.intro rfl (And.intro rfl (And.intro rfl (And.intro rfl (And.intro rfl (And.intro rfl (And.intro rfl (And.intro rfl (And.intro rfl (And.intro trivial (And.intro trivial (And.intro trivial (And.intro trivial (trivial))))))))))))))
        · have h := h.2 q
          refine Ev_goto 176 dX10_falls_75 (by decide) ?_
          refine Ev_iinc (x9 + 1) dX10_falls_176 rfl rfl (okp_of rfl) ?_
          refine Ev_goto 20 dX10_falls_179 (by decide) ?_
          refine Ev_weak ?_ h
          exact And.intro rfl (And.intro rfl (And.intro rfl (And.intro rfl (And.intro rfl (And.intro rfl (And.intro rfl (And.intro rfl (And.intro rfl (And.intro rfl (And.intro trivial (And.intro trivial (And.intro trivial (And.intro trivial (trivial))))))))))))))
      · have h := h.2 q
        refine Ev_iconst 1 dX10_falls_63 (by decide) ?_
        refine Ev_goto 68 dX10_falls_64 (by decide) ?_
        refine Ev_istore dX10_falls_68 (Nat.le_of_ble_eq_true rfl) (okp_of rfl) ?_
        refine Ev_iload dX10_falls_70 rfl ?_
        refine Ev_if_eq 78 dX10_falls_72 (by decide) (fun q => ?_) (fun q => ?_)
        · have h := h.1 q
          refine Ev_aload_n dX10_falls_78 rfl ?_
          refine Ev_getF 11 92 34 flX10_119 rfl dX10_falls_79 ?_
          refine Ev_bipush 88 dX10_falls_82 (by decide) ?_
          refine Ev_dup2 dX10_falls_84 ?_
          refine Ev_iald (n := 92) (vp_lit (by decide)) dX10_falls_85 ?_
          refine Ev_iload dX10_falls_86 rfl ?_
          refine Ev_isub dX10_falls_88 ?_
          refine Ev_iast (n := 92) (vp_lit (by decide)) dX10_falls_89 ?_
          have h := h _ rfl
          refine Ev_iload dX10_falls_90 rfl ?_
          refine Ev_iload dX10_falls_92 rfl ?_
          refine Ev_iadd dX10_falls_94 ?_
          refine Ev_istore dX10_falls_95 (Nat.le_of_ble_eq_true rfl) (okp_of rfl) ?_
          refine Ev_iload dX10_falls_97 rfl ?_
          refine Ev_iload dX10_falls_99 rfl ?_
          refine Ev_iload_n dX10_falls_101 rfl ?_
          obtain ⟨g, h⟩ := h
          refine Ev_irem dX10_falls_102 g ?_
          refine Ev_iadd dX10_falls_103 ?_
          refine Ev_istore dX10_falls_104 (Nat.le_of_ble_eq_true rfl) (okp_of rfl) ?_
          refine Ev_iload dX10_falls_106 rfl ?_
          refine Ev_iload dX10_falls_108 rfl ?_
          refine Ev_iload_n dX10_falls_110 rfl ?_
          obtain ⟨g, h⟩ := h
          refine Ev_idiv dX10_falls_111 g ?_
          refine Ev_iadd dX10_falls_112 ?_
          refine Ev_istore dX10_falls_113 (Nat.le_of_ble_eq_true rfl) (okp_of rfl) ?_
          refine Ev_aload_n dX10_falls_115 rfl ?_
          refine Ev_iload dX10_falls_116 rfl ?_
          refine Ev_iload dX10_falls_118 rfl ?_
          obtain ⟨y23, μ21, hM22, h⟩ := h
          refine Ev_callV [_, _] mlX10_343 rfl rfl (Nat.le_of_ble_eq_true rfl) dX10_falls_120 hM22 ?_
          refine Ev_if_ne 129 dX10_falls_123 (by decide) (fun q => ?_) (fun q => ?_)
          · have h := h.1 q
            refine Ev_aload_n dX10_falls_129 rfl ?_
            refine Ev_getF 11 92 34 flX10_119 rfl dX10_falls_130 ?_
            refine Ev_bipush 8 dX10_falls_133 (by decide) ?_
            refine Ev_iload dX10_falls_135 rfl ?_
            refine Ev_imul dX10_falls_137 ?_
            refine Ev_iload dX10_falls_138 rfl ?_
            refine Ev_iadd dX10_falls_140 ?_
            obtain ⟨g, h⟩ := h
            refine Ev_iald g dX10_falls_141 ?_
            refine Ev_iload dX10_falls_142 rfl ?_
            refine Ev_iadd dX10_falls_144 ?_
            refine Ev_istore dX10_falls_145 (Nat.le_of_ble_eq_true rfl) (okp_of rfl) ?_
            refine Ev_aload_n dX10_falls_147 rfl ?_
            refine Ev_getF 11 92 34 flX10_119 rfl dX10_falls_148 ?_
            refine Ev_bipush 8 dX10_falls_151 (by decide) ?_
            refine Ev_iload dX10_falls_153 rfl ?_
            refine Ev_imul dX10_falls_155 ?_
            refine Ev_iload dX10_falls_156 rfl ?_
            refine Ev_iadd dX10_falls_158 ?_
            refine Ev_iload dX10_falls_159 rfl ?_
            refine Ev_sipush 999 dX10_falls_161 (by decide) ?_
            refine Ev_icmp_le 173 dX10_falls_164 (by decide) (fun q => ?_) (fun q => ?_)
            · have h := h.1 q
              refine Ev_iload dX10_falls_173 rfl ?_
              obtain ⟨g, h⟩ := h
              refine Ev_iast g dX10_falls_175 ?_
              have h := h _ rfl
              refine Ev_iinc (x9 + 1) dX10_falls_176 rfl rfl (okp_of rfl) ?_
              refine Ev_goto 20 dX10_falls_179 (by decide) ?_
              refine Ev_weak ?_ h
              exact And.intro rfl (And.intro rfl (And.intro rfl (And.intro rfl (And.intro rfl (And.intro rfl (And.intro rfl (And.intro rfl (And.intro rfl (And.intro rfl (And.intro trivial (And.intro trivial (And.intro trivial (And.intro trivial (trivial))))))))))))))
            · have h := h.2 q
              refine Ev_sipush 999 dX10_falls_167 (by decide) ?_
              refine Ev_goto 175 dX10_falls_170 (by decide) ?_
              obtain ⟨g, h⟩ := h
              refine Ev_iast g dX10_falls_175 ?_
              have h := h _ rfl
              refine Ev_iinc (x9 + 1) dX10_falls_176 rfl rfl (okp_of rfl) ?_
              refine Ev_goto 20 dX10_falls_179 (by decide) ?_
              refine Ev_weak ?_ h
              exact And.intro rfl (And.intro rfl (And.intro rfl (And.intro rfl (And.intro rfl (And.intro rfl (And.intro rfl (And.intro rfl (And.intro rfl (And.intro rfl (And.intro trivial (And.intro trivial (And.intro trivial (And.intro trivial (trivial))))))))))))))
          · have h := h.2 q
            refine Ev_goto 176 dX10_falls_126 (by decide) ?_
            refine Ev_iinc (x9 + 1) dX10_falls_176 rfl rfl (okp_of rfl) ?_
            refine Ev_goto 20 dX10_falls_179 (by decide) ?_
            refine Ev_weak ?_ h
            exact And.intro rfl (And.intro rfl (And.intro rfl (And.intro rfl (And.intro rfl (And.intro rfl (And.intro rfl (And.intro rfl (And.intro rfl (And.intro rfl (And.intro trivial (And.intro trivial (And.intro trivial (And.intro trivial (trivial))))))))))))))
        · have h := h.2 q
          refine Ev_goto 176 dX10_falls_75 (by decide) ?_
          refine Ev_iinc (x9 + 1) dX10_falls_176 rfl rfl (okp_of rfl) ?_
          refine Ev_goto 20 dX10_falls_179 (by decide) ?_
          refine Ev_weak ?_ h
          exact And.intro rfl (And.intro rfl (And.intro rfl (And.intro rfl (And.intro rfl (And.intro rfl (And.intro rfl (And.intro rfl (And.intro rfl (And.intro rfl (And.intro trivial (And.intro trivial (And.intro trivial (And.intro trivial (trivial))))))))))))))
set_option maxHeartbeats 4000000 in
set_option maxRecDepth 100000 in
theorem X10_feed_ok {d : Nat} {x1 : Int32} {x2 : Int32} {x3 : Int32} {x4 : Int32} {x5 : Int32} {μ μ' : Mem} {x : Int32} (h : ((((μ.1 0 2) + 20) ≤ 2000 → (∃ (μ1 : Mem), X10_put d x1 μ μ1 ∧ (∃ (μ3 : Mem), X10_put d x2 μ1 μ3 ∧ (∃ (μ5 : Mem), X10_put d x3 μ3 μ5 ∧ (∃ (μ7 : Mem), X10_put d x4 μ5 μ7 ∧ (∃ (μ9 : Mem), X10_put d x5 μ7 μ9 ∧ (x = μ9.1 0 2 ∧ μ' = μ9))))))) ∧ (¬ ((μ.1 0 2) + 20) ≤ 2000 → (x = (-1) ∧ μ' = μ)))) : X10_feed (d + 1) x1 x2 x3 x4 x5 μ x μ' := by
  refine Me_of [some (vr 10 0 0), some (vi x1), some (vi x2), some (vi x3), some (vi x4), some (vi x5)] rfl (Nat.le_of_ble_eq_true rfl) (by decide) ?_
  refine Ev_aload_n dX10_feed_0 rfl ?_
  refine Ev_getI flX10_172 rfl dX10_feed_1 ?_
  refine Ev_bipush 20 dX10_feed_4 (by decide) ?_
  refine Ev_iadd dX10_feed_6 ?_
  refine Ev_sipush 2000 dX10_feed_7 (by decide) ?_
  refine Ev_icmp_le 15 dX10_feed_10 (by decide) (fun q => ?_) (fun q => ?_)
  · have h := h.1 q
    refine Ev_aload_n dX10_feed_15 rfl ?_
    refine Ev_iload_n dX10_feed_16 rfl ?_
    obtain ⟨μ1, hM2, h⟩ := h
    refine Ev_callV [_] mlX10_175 rfl rfl (Nat.le_of_ble_eq_true rfl) dX10_feed_17 hM2 ?_
    refine Ev_aload_n dX10_feed_20 rfl ?_
    refine Ev_iload_n dX10_feed_21 rfl ?_
    obtain ⟨μ3, hM4, h⟩ := h
    refine Ev_callV [_] mlX10_175 rfl rfl (Nat.le_of_ble_eq_true rfl) dX10_feed_22 hM4 ?_
    refine Ev_aload_n dX10_feed_25 rfl ?_
    refine Ev_iload_n dX10_feed_26 rfl ?_
    obtain ⟨μ5, hM6, h⟩ := h
    refine Ev_callV [_] mlX10_175 rfl rfl (Nat.le_of_ble_eq_true rfl) dX10_feed_27 hM6 ?_
    refine Ev_aload_n dX10_feed_30 rfl ?_
    refine Ev_iload dX10_feed_31 rfl ?_
    obtain ⟨μ7, hM8, h⟩ := h
    refine Ev_callV [_] mlX10_175 rfl rfl (Nat.le_of_ble_eq_true rfl) dX10_feed_33 hM8 ?_
    refine Ev_aload_n dX10_feed_36 rfl ?_
    refine Ev_iload dX10_feed_37 rfl ?_
    obtain ⟨μ9, hM10, h⟩ := h
    refine Ev_callV [_] mlX10_175 rfl rfl (Nat.le_of_ble_eq_true rfl) dX10_feed_39 hM10 ?_
    refine Ev_aload_n dX10_feed_42 rfl ?_
    refine Ev_getI flX10_172 rfl dX10_feed_43 ?_
    obtain ⟨rfl, rfl⟩ := h
    exact R_i rfl dX10_feed_46 rfl
  · have h := h.2 q
    refine Ev_iconst (-1) dX10_feed_13 (by decide) ?_
    obtain ⟨rfl, rfl⟩ := h
    exact R_i rfl dX10_feed_14 rfl
set_option maxHeartbeats 4000000 in
set_option maxRecDepth 100000 in
theorem X10_fell_ok {d : Nat} {x1 : Int32} {x2 : Int32} {x3 : Int32} {x4 : Int32} {μ μ' : Mem} {x : Int32} (h : (∃ (y3 : Int32) (μ1 : Mem), X10_isAsked d x1 x2 x3 μ y3 μ1 ∧ ((y3 = 0 → (x = (-1) ∧ μ' = μ1)) ∧ (¬ y3 = 0 → (((-1) ≤ x4 → X10_fell_at24 d x1 x2 x3 x4 0 0 μ1 x μ') ∧ (¬ (-1) ≤ x4 → (x = (-1) ∧ μ' = μ1))))))) : X10_fell (d + 1) x1 x2 x3 x4 μ x μ' := by
  refine Me_of [some (vr 10 0 0), some (vi x1), some (vi x2), some (vi x3), some (vi x4), none, none] rfl (Nat.le_of_ble_eq_true rfl) (by decide) ?_
  refine Ev_aload_n dX10_fell_0 rfl ?_
  refine Ev_iload_n dX10_fell_1 rfl ?_
  refine Ev_iload_n dX10_fell_2 rfl ?_
  refine Ev_iload_n dX10_fell_3 rfl ?_
  obtain ⟨y3, μ1, hM2, h⟩ := h
  refine Ev_callV [_, _, _] mlX10_470 rfl rfl (Nat.le_of_ble_eq_true rfl) dX10_fell_4 hM2 ?_
  refine Ev_if_eq 16 dX10_fell_7 (by decide) (fun q => ?_) (fun q => ?_)
  · have h := h.1 q
    refine Ev_iconst (-1) dX10_fell_16 (by decide) ?_
    obtain ⟨rfl, rfl⟩ := h
    exact R_i rfl dX10_fell_17 rfl
  · have h := h.2 q
    refine Ev_iload dX10_fell_10 rfl ?_
    refine Ev_iconst (-1) dX10_fell_12 (by decide) ?_
    refine Ev_icmp_ge 18 dX10_fell_13 (by decide) (fun q => ?_) (fun q => ?_)
    · have h := h.1 q
      refine Ev_iconst 0 dX10_fell_18 (by decide) ?_
      refine Ev_istore dX10_fell_19 (Nat.le_of_ble_eq_true rfl) (okp_of rfl) ?_
      refine Ev_iconst 0 dX10_fell_21 (by decide) ?_
      refine Ev_istore dX10_fell_22 (Nat.le_of_ble_eq_true rfl) (okp_of rfl) ?_
      exact h
    · have h := h.2 q
      refine Ev_iconst (-1) dX10_fell_16 (by decide) ?_
      obtain ⟨rfl, rfl⟩ := h
      exact R_i rfl dX10_fell_17 rfl
set_option maxHeartbeats 4000000 in
set_option maxRecDepth 100000 in
theorem X10_fell_at24_ok {d : Nat} {x1 : Int32} {x2 : Int32} {x3 : Int32} {x4 : Int32} {x5 : Int32} {x6 : Int32} {μ μ' : Mem} {x : Int32} (h : ((256 ≤ x6 → ((x4 ≠ (-1) → (x = (-1) ∧ μ' = μ)) ∧ (x4 = (-1) → (x = x5 ∧ μ' = μ)))) ∧ (¬ 256 ≤ x6 → (∃ (y3 : Int32) (μ1 : Mem), X10_isWay d x6 x2 x3 x1 μ y3 μ1 ∧ ((y3 ≠ 0 → ((x5 ≠ x4 → X10_fell_at24 d x1 x2 x3 x4 (x5 + 1) (x6 + 1) μ1 x μ') ∧ (x5 = x4 → (x = ((100 * (x6 / 64)) + (10 * ((x6 / 8) - (x6 / 8) / 8 * 8))) + (x6 - x6 / 8 * 8) ∧ μ' = μ1)))) ∧ (y3 = 0 → X10_fell_at24 d x1 x2 x3 x4 x5 (x6 + 1) μ1 x μ')))))) : X10_fell_at24 d x1 x2 x3 x4 x5 x6 μ x μ' := by
  refine Ev_iload dX10_fell_24 rfl ?_
  refine Ev_sipush 256 dX10_fell_26 (by decide) ?_
  refine Ev_icmp_ge 90 dX10_fell_29 (by decide) (fun q => ?_) (fun q => ?_)
  · have h := h.1 q
    refine Ev_iload dX10_fell_90 rfl ?_
    refine Ev_iconst (-1) dX10_fell_92 (by decide) ?_
    refine Ev_icmp_ne 101 dX10_fell_93 (by decide) (fun q => ?_) (fun q => ?_)
    · have h := h.1 q
      refine Ev_iconst (-1) dX10_fell_101 (by decide) ?_
      obtain ⟨rfl, rfl⟩ := h
      exact R_i rfl dX10_fell_102 rfl
    · have h := h.2 q
      refine Ev_iload dX10_fell_96 rfl ?_
      refine Ev_goto 102 dX10_fell_98 (by decide) ?_
      obtain ⟨rfl, rfl⟩ := h
      exact R_i rfl dX10_fell_102 rfl
  · have h := h.2 q
    refine Ev_aload_n dX10_fell_32 rfl ?_
    refine Ev_iload dX10_fell_33 rfl ?_
    refine Ev_iload_n dX10_fell_35 rfl ?_
    refine Ev_iload_n dX10_fell_36 rfl ?_
    refine Ev_iload_n dX10_fell_37 rfl ?_
    obtain ⟨y3, μ1, hM2, h⟩ := h
    refine Ev_callV [_, _, _, _] mlX10_473 rfl rfl (Nat.le_of_ble_eq_true rfl) dX10_fell_38 hM2 ?_
    refine Ev_if_ne 47 dX10_fell_41 (by decide) (fun q => ?_) (fun q => ?_)
    · have h := h.1 q
      refine Ev_iload dX10_fell_47 rfl ?_
      refine Ev_iload dX10_fell_49 rfl ?_
      refine Ev_icmp_ne 81 dX10_fell_51 (by decide) (fun q => ?_) (fun q => ?_)
      · have h := h.1 q
        refine Ev_iinc (x5 + 1) dX10_fell_81 rfl rfl (okp_of rfl) ?_
        refine Ev_iinc (x6 + 1) dX10_fell_84 rfl rfl (okp_of rfl) ?_
        refine Ev_goto 24 dX10_fell_87 (by decide) ?_
        exact h
      · have h := h.2 q
        refine Ev_bipush 100 dX10_fell_54 (by decide) ?_
        refine Ev_iload dX10_fell_56 rfl ?_
        refine Ev_bipush 64 dX10_fell_58 (by decide) ?_
        refine Ev_idiv dX10_fell_60 (by decide) ?_
        refine Ev_imul dX10_fell_61 ?_
        refine Ev_bipush 10 dX10_fell_62 (by decide) ?_
        refine Ev_iload dX10_fell_64 rfl ?_
        refine Ev_bipush 8 dX10_fell_66 (by decide) ?_
        refine Ev_idiv dX10_fell_68 (by decide) ?_
        refine Ev_bipush 8 dX10_fell_69 (by decide) ?_
        refine Ev_irem dX10_fell_71 (by decide) ?_
        refine Ev_imul dX10_fell_72 ?_
        refine Ev_iadd dX10_fell_73 ?_
        refine Ev_iload dX10_fell_74 rfl ?_
        refine Ev_bipush 8 dX10_fell_76 (by decide) ?_
        refine Ev_irem dX10_fell_78 (by decide) ?_
        refine Ev_iadd dX10_fell_79 ?_
        obtain ⟨rfl, rfl⟩ := h
        exact R_i rfl dX10_fell_80 rfl
    · have h := h.2 q
      refine Ev_goto 84 dX10_fell_44 (by decide) ?_
      refine Ev_iinc (x6 + 1) dX10_fell_84 rfl rfl (okp_of rfl) ?_
      refine Ev_goto 24 dX10_fell_87 (by decide) ?_
      exact h
set_option maxHeartbeats 4000000 in
set_option maxRecDepth 100000 in
theorem X10_field_ok {d : Nat} {x1 : Int32} {x2 : Int32} {μ μ' : Mem} {x : Int32} (h : (∃ (y3 : Int32) (μ1 : Mem), X10_isField d x1 μ y3 μ1 ∧ ((y3 ≠ 0 → ((x2 = 0 → (∃ (y6 : Int32) (μ4 : Mem), X10_cellsOf d x1 μ1 y6 μ4 ∧ (x = y6 ∧ μ' = μ4))) ∧ (x2 = 1 → X10_field_at55 d x1 0 0 μ1 x μ') ∧ (x2 = 2 → vp_in (76 + x1) 92 ∧ (x = μ1.1 33 ((76 + x1).toNatClampNeg) ∧ μ' = μ1)) ∧ (x2 = 3 → vp_in (82 + x1) 92 ∧ (x = μ1.1 33 ((82 + x1).toNatClampNeg) ∧ μ' = μ1)) ∧ (x2 = 4 → (∃ (y9 : Int32) (μ7 : Mem), X10_needAll d x1 μ1 y9 μ7 ∧ (x = y9 ∧ μ' = μ7))) ∧ (((x2).toInt < 0 ∨ 4 < (x2).toInt) → (x = (-1) ∧ μ' = μ1)))) ∧ (y3 = 0 → (x = (-1) ∧ μ' = μ1))))) : X10_field (d + 1) x1 x2 μ x μ' := by
  refine Me_of [some (vr 10 0 0), some (vi x1), some (vi x2), none, none] rfl (Nat.le_of_ble_eq_true rfl) (by decide) ?_
  refine Ev_aload_n dX10_field_0 rfl ?_
  refine Ev_iload_n dX10_field_1 rfl ?_
  obtain ⟨y3, μ1, hM2, h⟩ := h
  refine Ev_callV [_] mlX10_387 rfl rfl (Nat.le_of_ble_eq_true rfl) dX10_field_2 hM2 ?_
  refine Ev_if_ne 10 dX10_field_5 (by decide) (fun q => ?_) (fun q => ?_)
  · have h := h.1 q
    refine Ev_iload_n dX10_field_10 rfl ?_
    refine Ev_tab 125 dX10_field_11 (by decide) (fun k hk e => ?_) (fun q => ?_)
    · rcases (show k = 0 ∨ k = 1 ∨ k = 2 ∨ k = 3 ∨ k = 4 by omega) with rfl | rfl | rfl | rfl | rfl
      · have h := h.1 (Int32.toInt_inj.mp (e.trans (by decide)))
        refine ⟨_, 44, rfl, by decide, ?_⟩
        refine Ev_aload_n dX10_field_44 rfl ?_
        refine Ev_iload_n dX10_field_45 rfl ?_
        obtain ⟨y6, μ4, hM5, h⟩ := h
        refine Ev_callV [_] mlX10_384 rfl rfl (Nat.le_of_ble_eq_true rfl) dX10_field_46 hM5 ?_
        obtain ⟨rfl, rfl⟩ := h
        exact R_i rfl dX10_field_49 rfl
      · have h := h.2.1 (Int32.toInt_inj.mp (e.trans (by decide)))
        refine ⟨_, 50, rfl, by decide, ?_⟩
        refine Ev_iconst 0 dX10_field_50 (by decide) ?_
        refine Ev_istore_n dX10_field_51 (Nat.le_of_ble_eq_true rfl) (okp_of rfl) ?_
        refine Ev_iconst 0 dX10_field_52 (by decide) ?_
        refine Ev_istore dX10_field_53 (Nat.le_of_ble_eq_true rfl) (okp_of rfl) ?_
        refine Ev_weak ?_ h
        exact And.intro rfl (And.intro rfl (And.intro trivial (And.intro rfl (And.intro rfl (trivial)))))
      · have h := h.2.2.1 (Int32.toInt_inj.mp (e.trans (by decide)))
        refine ⟨_, 99, rfl, by decide, ?_⟩
        refine Ev_aload_n dX10_field_99 rfl ?_
        refine Ev_getF 11 92 33 flX10_116 rfl dX10_field_100 ?_
        refine Ev_bipush 76 dX10_field_103 (by decide) ?_
        refine Ev_iload_n dX10_field_105 rfl ?_
        refine Ev_iadd dX10_field_106 ?_
        obtain ⟨g, h⟩ := h
        refine Ev_iald g dX10_field_107 ?_
        obtain ⟨rfl, rfl⟩ := h
        exact R_i rfl dX10_field_108 rfl
      · have h := h.2.2.2.1 (Int32.toInt_inj.mp (e.trans (by decide)))
        refine ⟨_, 109, rfl, by decide, ?_⟩
        refine Ev_aload_n dX10_field_109 rfl ?_
        refine Ev_getF 11 92 33 flX10_116 rfl dX10_field_110 ?_
        refine Ev_bipush 82 dX10_field_113 (by decide) ?_
        refine Ev_iload_n dX10_field_115 rfl ?_
        refine Ev_iadd dX10_field_116 ?_
        obtain ⟨g, h⟩ := h
        refine Ev_iald g dX10_field_117 ?_
        obtain ⟨rfl, rfl⟩ := h
        exact R_i rfl dX10_field_118 rfl
      · have h := h.2.2.2.2.1 (Int32.toInt_inj.mp (e.trans (by decide)))
        refine ⟨_, 119, rfl, by decide, ?_⟩
        refine Ev_aload_n dX10_field_119 rfl ?_
        refine Ev_iload_n dX10_field_120 rfl ?_
        obtain ⟨y9, μ7, hM8, h⟩ := h
        refine Ev_callV [_] mlX10_390 rfl rfl (Nat.le_of_ble_eq_true rfl) dX10_field_121 hM8 ?_
        obtain ⟨rfl, rfl⟩ := h
        exact R_i rfl dX10_field_124 rfl
    · have h := h.2.2.2.2.2 q
      refine Ev_iconst (-1) dX10_field_125 (by decide) ?_
      obtain ⟨rfl, rfl⟩ := h
      exact R_i rfl dX10_field_126 rfl
  · have h := h.2 q
    refine Ev_iconst (-1) dX10_field_8 (by decide) ?_
    obtain ⟨rfl, rfl⟩ := h
    exact R_i rfl dX10_field_9 rfl
set_option maxHeartbeats 4000000 in
set_option maxRecDepth 100000 in
theorem X10_field_at55_ok {d : Nat} {x1 : Int32} {x3 : Int32} {x4 : Int32} {μ μ' : Mem} {x : Int32} (h : ((48 ≤ x4 → (x = x3 ∧ μ' = μ)) ∧ (¬ 48 ≤ x4 → (∃ (y3 : Int32) (μ1 : Mem), X10_isLand d x4 μ y3 μ1 ∧ ((y3 = 0 → X10_field_at55 d x1 x3 (x4 + 1) μ1 x μ') ∧ (¬ y3 = 0 → (∃ (y6 : Int32) (μ4 : Mem), X10_fieldAt d x4 μ1 y6 μ4 ∧ ((y6 ≠ x1 → X10_field_at55 d x1 x3 (x4 + 1) μ4 x μ') ∧ (y6 = x1 → vp_in x4 92 ∧ X10_field_at55 d x1 (x3 + (μ4.1 33 x4.toNatClampNeg)) (x4 + 1) μ4 x μ'))))))))) : X10_field_at55 d x1 x3 x4 μ x μ' := by
  refine Ev_iload dX10_field_55 rfl ?_
  refine Ev_bipush 48 dX10_field_57 (by decide) ?_
  refine Ev_icmp_ge 97 dX10_field_59 (by decide) (fun q => ?_) (fun q => ?_)
  · have h := h.1 q
    refine Ev_iload_n dX10_field_97 rfl ?_
    obtain ⟨rfl, rfl⟩ := h
    exact R_i rfl dX10_field_98 rfl
  · have h := h.2 q
    refine Ev_aload_n dX10_field_62 rfl ?_
    refine Ev_iload dX10_field_63 rfl ?_
    obtain ⟨y3, μ1, hM2, h⟩ := h
    refine Ev_callV [_] mlX10_366 rfl rfl (Nat.le_of_ble_eq_true rfl) dX10_field_65 hM2 ?_
    refine Ev_if_eq 91 dX10_field_68 (by decide) (fun q => ?_) (fun q => ?_)
    · have h := h.1 q
      refine Ev_iinc (x4 + 1) dX10_field_91 rfl rfl (okp_of rfl) ?_
      refine Ev_goto 55 dX10_field_94 (by decide) ?_
      exact h
    · have h := h.2 q
      refine Ev_aload_n dX10_field_71 rfl ?_
      refine Ev_iload dX10_field_72 rfl ?_
      obtain ⟨y6, μ4, hM5, h⟩ := h
      refine Ev_callV [_] mlX10_347 rfl rfl (Nat.le_of_ble_eq_true rfl) dX10_field_74 hM5 ?_
      refine Ev_iload_n dX10_field_77 rfl ?_
      refine Ev_icmp_ne 91 dX10_field_78 (by decide) (fun q => ?_) (fun q => ?_)
      · have h := h.1 q
        refine Ev_iinc (x4 + 1) dX10_field_91 rfl rfl (okp_of rfl) ?_
        refine Ev_goto 55 dX10_field_94 (by decide) ?_
        exact h
      · have h := h.2 q
        refine Ev_iload_n dX10_field_81 rfl ?_
        refine Ev_aload_n dX10_field_82 rfl ?_
        refine Ev_getF 11 92 33 flX10_116 rfl dX10_field_83 ?_
        refine Ev_iload dX10_field_86 rfl ?_
        obtain ⟨g, h⟩ := h
        refine Ev_iald g dX10_field_88 ?_
        refine Ev_iadd dX10_field_89 ?_
        refine Ev_istore_n dX10_field_90 (Nat.le_of_ble_eq_true rfl) (okp_of rfl) ?_
        refine Ev_iinc (x4 + 1) dX10_field_91 rfl rfl (okp_of rfl) ?_
        refine Ev_goto 55 dX10_field_94 (by decide) ?_
        exact h
set_option maxHeartbeats 4000000 in
set_option maxRecDepth 100000 in
theorem X10_fieldAt_ok {d : Nat} {x1 : Int32} {μ μ' : Mem} {x : Int32} (h : vp_in ((48 * (μ.1 0 18)) + x1) 96 ∧ (x = μ.1 11 (((48 * (μ.1 0 18)) + x1).toNatClampNeg) ∧ μ' = μ)) : X10_fieldAt d x1 μ x μ' := by
  refine Me_of [some (vr 10 0 0), some (vi x1)] rfl (Nat.le_of_ble_eq_true rfl) (by decide) ?_
  refine Ev_aload_n dX10_fieldAt_0 rfl ?_
  refine Ev_getF 11 96 11 flX10_49 rfl dX10_fieldAt_1 ?_
  refine Ev_bipush 48 dX10_fieldAt_4 (by decide) ?_
  refine Ev_aload_n dX10_fieldAt_6 rfl ?_
  refine Ev_getI flX10_239 rfl dX10_fieldAt_7 ?_
  refine Ev_imul dX10_fieldAt_10 ?_
  refine Ev_iload_n dX10_fieldAt_11 rfl ?_
  refine Ev_iadd dX10_fieldAt_12 ?_
  obtain ⟨g, h⟩ := h
  refine Ev_iald g dX10_fieldAt_13 ?_
  obtain ⟨rfl, rfl⟩ := h
  exact R_i rfl dX10_fieldAt_14 rfl
set_option maxHeartbeats 4000000 in
set_option maxRecDepth 100000 in
theorem X10_fillsServe_ok {d : Nat} {x1 : Int32} {x2 : Int32} {μ μ' : Mem} (h : X10_fillsServe_at2 d x1 x2 0 μ μ') : X10_fillsServe (d + 1) x1 x2 μ μ' := by
  refine Me_of [some (vr 10 0 0), some (vi x1), some (vi x2), none, none] rfl (Nat.le_of_ble_eq_true rfl) (by decide) ?_
  refine Ev_iconst 0 dX10_fillsServe_0 (by decide) ?_
  refine Ev_istore_n dX10_fillsServe_1 (Nat.le_of_ble_eq_true rfl) (okp_of rfl) ?_
  exact h
set_option maxHeartbeats 4000000 in
set_option maxRecDepth 100000 in
theorem X10_fillsServe_at2_ok {d : Nat} {x1 : Int32} {x2 : Int32} {x3 : Int32} {μ μ' : Mem} (h : vp_in (μ.1 0 18) 2 ∧ (((μ.1 15 ((μ.1 0 18).toNatClampNeg)) ≤ x3 → (∀ μ1 : Mem, μ1 = sI μ 0 63 (-1) → X10_fillsServe_at72 d 0 μ1 μ')) ∧ (¬ (μ.1 15 ((μ.1 0 18).toNatClampNeg)) ≤ x3 → X10_fillsServe_at18 d x1 x2 x3 0 μ μ'))) : X10_fillsServe_at2 d x1 x2 x3 μ μ' := by
  refine Ev_iload_n dX10_fillsServe_2 rfl ?_
  refine Ev_aload_n dX10_fillsServe_3 rfl ?_
  refine Ev_getF 11 2 15 flX10_61 rfl dX10_fillsServe_4 ?_
  refine Ev_aload_n dX10_fillsServe_7 rfl ?_
  refine Ev_getI flX10_239 rfl dX10_fillsServe_8 ?_
  obtain ⟨g, h⟩ := h
  refine Ev_iald g dX10_fillsServe_11 ?_
  refine Ev_icmp_ge 65 dX10_fillsServe_12 (by decide) (fun q => ?_) (fun q => ?_)
  · have h := h.1 q
    refine Ev_aload_n dX10_fillsServe_65 rfl ?_
    refine Ev_iconst (-1) dX10_fillsServe_66 (by decide) ?_
    refine Ev_putI .int flX10_455 fpX10_63 rfl rfl rfl dX10_fillsServe_67 ?_
    have h := h _ rfl
    refine Ev_iconst 0 dX10_fillsServe_70 (by decide) ?_
    refine Ev_istore_n dX10_fillsServe_71 (Nat.le_of_ble_eq_true rfl) (okp_of rfl) ?_
    refine Ev_weak ?_ h
    exact And.intro rfl (And.intro trivial (And.intro trivial (And.intro rfl (And.intro trivial (trivial)))))
  · have h := h.2 q
    refine Ev_iconst 0 dX10_fillsServe_15 (by decide) ?_
    refine Ev_istore dX10_fillsServe_16 (Nat.le_of_ble_eq_true rfl) (okp_of rfl) ?_
    exact h
set_option maxHeartbeats 4000000 in
set_option maxRecDepth 100000 in
theorem X10_fillsServe_at72_ok {d : Nat} {x3 : Int32} {μ μ' : Mem} (h : vp_in (μ.1 0 18) 2 ∧ (∃ (y3 : Int32) (μ1 : Mem), X10_sixes d (μ.1 15 ((μ.1 0 18).toNatClampNeg)) μ y3 μ1 ∧ ((y3 ≤ x3 → μ' = μ1) ∧ (¬ y3 ≤ x3 → (∃ (y6 : Int32) (μ4 : Mem), X10_offAll d x3 μ1 y6 μ4 ∧ ((y6 < 0 → X10_fillsServe_at72 d (x3 + 1) μ4 μ') ∧ (¬ y6 < 0 → (((μ4.1 0 63) < 0 → (∀ μ7 : Mem, μ7 = sI μ4 0 62 y6 → (∀ μ8 : Mem, μ8 = sI μ7 0 63 x3 → X10_fillsServe_at72 d (x3 + 1) μ8 μ'))) ∧ (¬ (μ4.1 0 63) < 0 → ((y6 < (μ4.1 0 62) → (∀ μ9 : Mem, μ9 = sI μ4 0 62 y6 → (∀ μ10 : Mem, μ10 = sI μ9 0 63 x3 → X10_fillsServe_at72 d (x3 + 1) μ10 μ'))) ∧ (¬ y6 < (μ4.1 0 62) → X10_fillsServe_at72 d (x3 + 1) μ4 μ'))))))))))) : X10_fillsServe_at72 d x3 μ μ' := by
  refine Ev_iload_n dX10_fillsServe_72 rfl ?_
  refine Ev_aload_n dX10_fillsServe_73 rfl ?_
  refine Ev_getF 11 2 15 flX10_61 rfl dX10_fillsServe_74 ?_
  refine Ev_aload_n dX10_fillsServe_77 rfl ?_
  refine Ev_getI flX10_239 rfl dX10_fillsServe_78 ?_
  obtain ⟨g, h⟩ := h
  refine Ev_iald g dX10_fillsServe_81 ?_
  obtain ⟨y3, μ1, hM2, h⟩ := h
  refine Ev_callS [_] mlX10_448 rfl rfl (Nat.le_of_ble_eq_true rfl) dX10_fillsServe_82 hM2 ?_
  refine Ev_icmp_ge 136 dX10_fillsServe_85 (by decide) (fun q => ?_) (fun q => ?_)
  · have h := h.1 q
    subst h
    exact R_v rfl dX10_fillsServe_136
  · have h := h.2 q
    refine Ev_aload_n dX10_fillsServe_88 rfl ?_
    refine Ev_iload_n dX10_fillsServe_89 rfl ?_
    obtain ⟨y6, μ4, hM5, h⟩ := h
    refine Ev_callV [_] mlX10_458 rfl rfl (Nat.le_of_ble_eq_true rfl) dX10_fillsServe_90 hM5 ?_
    refine Ev_istore dX10_fillsServe_93 (Nat.le_of_ble_eq_true rfl) (okp_of rfl) ?_
    refine Ev_iload dX10_fillsServe_95 rfl ?_
    refine Ev_if_lt 130 dX10_fillsServe_97 (by decide) (fun q => ?_) (fun q => ?_)
    · have h := h.1 q
      refine Ev_iinc (x3 + 1) dX10_fillsServe_130 rfl rfl (okp_of rfl) ?_
      refine Ev_goto 72 dX10_fillsServe_133 (by decide) ?_
      refine Ev_weak ?_ h
      exact And.intro rfl (And.intro trivial (And.intro trivial (And.intro rfl (And.intro trivial (trivial)))))
    · have h := h.2 q
      refine Ev_aload_n dX10_fillsServe_100 rfl ?_
      refine Ev_getI flX10_455 rfl dX10_fillsServe_101 ?_
      refine Ev_if_lt 119 dX10_fillsServe_104 (by decide) (fun q => ?_) (fun q => ?_)
      · have h := h.1 q
        refine Ev_aload_n dX10_fillsServe_119 rfl ?_
        refine Ev_iload dX10_fillsServe_120 rfl ?_
        refine Ev_putI .int flX10_461 fpX10_62 rfl rfl rfl dX10_fillsServe_122 ?_
        have h := h _ rfl
        refine Ev_aload_n dX10_fillsServe_125 rfl ?_
        refine Ev_iload_n dX10_fillsServe_126 rfl ?_
        refine Ev_putI .int flX10_455 fpX10_63 rfl rfl rfl dX10_fillsServe_127 ?_
        have h := h _ rfl
        refine Ev_iinc (x3 + 1) dX10_fillsServe_130 rfl rfl (okp_of rfl) ?_
        refine Ev_goto 72 dX10_fillsServe_133 (by decide) ?_
        refine Ev_weak ?_ h
        exact And.intro rfl (And.intro trivial (And.intro trivial (And.intro rfl (And.intro trivial (trivial)))))
      · have h := h.2 q
        refine Ev_iload dX10_fillsServe_107 rfl ?_
        refine Ev_aload_n dX10_fillsServe_109 rfl ?_
        refine Ev_getI flX10_461 rfl dX10_fillsServe_110 ?_
        refine Ev_icmp_lt 119 dX10_fillsServe_113 (by decide) (fun q => ?_) (fun q => ?_)
        · have h := h.1 q
          refine Ev_aload_n dX10_fillsServe_119 rfl ?_
          refine Ev_iload dX10_fillsServe_120 rfl ?_
          refine Ev_putI .int flX10_461 fpX10_62 rfl rfl rfl dX10_fillsServe_122 ?_
          have h := h _ rfl
          refine Ev_aload_n dX10_fillsServe_125 rfl ?_
          refine Ev_iload_n dX10_fillsServe_126 rfl ?_
          refine Ev_putI .int flX10_455 fpX10_63 rfl rfl rfl dX10_fillsServe_127 ?_
          have h := h _ rfl
          refine Ev_iinc (x3 + 1) dX10_fillsServe_130 rfl rfl (okp_of rfl) ?_
          refine Ev_goto 72 dX10_fillsServe_133 (by decide) ?_
          refine Ev_weak ?_ h
          exact And.intro rfl (And.intro trivial (And.intro trivial (And.intro rfl (And.intro trivial (trivial)))))
        · have h := h.2 q
          refine Ev_goto 130 dX10_fillsServe_116 (by decide) ?_
          refine Ev_iinc (x3 + 1) dX10_fillsServe_130 rfl rfl (okp_of rfl) ?_
          refine Ev_goto 72 dX10_fillsServe_133 (by decide) ?_
          refine Ev_weak ?_ h
          exact And.intro rfl (And.intro trivial (And.intro trivial (And.intro rfl (And.intro trivial (trivial)))))
set_option maxHeartbeats 4000000 in
set_option maxRecDepth 100000 in
theorem X10_fillsServe_at18_ok {d : Nat} {x1 : Int32} {x2 : Int32} {x3 : Int32} {x4 : Int32} {μ μ' : Mem} (h : vp_in (μ.1 0 18) 2 ∧ (((μ.1 12 ((μ.1 0 18).toNatClampNeg)) ≤ x4 → X10_fillsServe_at2 d x1 x2 (x3 + 1) μ μ') ∧ (¬ (μ.1 12 ((μ.1 0 18).toNatClampNeg)) ≤ x4 → (∃ (y3 : Int32) (μ1 : Mem), X10_offBy d x3 x4 x1 x2 μ y3 μ1 ∧ vp_in ((6 * x3) + x4) 24 ∧ (∀ μ4 : Mem, μ4 = sI μ1 40 (((6 * x3) + x4).toNatClampNeg) y3 → X10_fillsServe_at18 d x1 x2 x3 (x4 + 1) μ4 μ'))))) : X10_fillsServe_at18 d x1 x2 x3 x4 μ μ' := by
  refine Ev_iload dX10_fillsServe_18 rfl ?_
  refine Ev_aload_n dX10_fillsServe_20 rfl ?_
  refine Ev_getF 11 2 12 flX10_52 rfl dX10_fillsServe_21 ?_
  refine Ev_aload_n dX10_fillsServe_24 rfl ?_
  refine Ev_getI flX10_239 rfl dX10_fillsServe_25 ?_
  obtain ⟨g, h⟩ := h
  refine Ev_iald g dX10_fillsServe_28 ?_
  refine Ev_icmp_ge 59 dX10_fillsServe_29 (by decide) (fun q => ?_) (fun q => ?_)
  · have h := h.1 q
    refine Ev_iinc (x3 + 1) dX10_fillsServe_59 rfl rfl (okp_of rfl) ?_
    refine Ev_goto 2 dX10_fillsServe_62 (by decide) ?_
    refine Ev_weak ?_ h
    exact And.intro rfl (And.intro rfl (And.intro rfl (And.intro rfl (And.intro trivial (trivial)))))
  · have h := h.2 q
    refine Ev_aload_n dX10_fillsServe_32 rfl ?_
    refine Ev_getF 11 24 40 flX10_137 rfl dX10_fillsServe_33 ?_
    refine Ev_bipush 6 dX10_fillsServe_36 (by decide) ?_
    refine Ev_iload_n dX10_fillsServe_38 rfl ?_
    refine Ev_imul dX10_fillsServe_39 ?_
    refine Ev_iload dX10_fillsServe_40 rfl ?_
    refine Ev_iadd dX10_fillsServe_42 ?_
    refine Ev_aload_n dX10_fillsServe_43 rfl ?_
    refine Ev_iload_n dX10_fillsServe_44 rfl ?_
    refine Ev_iload dX10_fillsServe_45 rfl ?_
    refine Ev_iload_n dX10_fillsServe_47 rfl ?_
    refine Ev_iload_n dX10_fillsServe_48 rfl ?_
    obtain ⟨y3, μ1, hM2, h⟩ := h
    refine Ev_callV [_, _, _, _] mlX10_451 rfl rfl (Nat.le_of_ble_eq_true rfl) dX10_fillsServe_49 hM2 ?_
    obtain ⟨g, h⟩ := h
    refine Ev_iast g dX10_fillsServe_52 ?_
    have h := h _ rfl
    refine Ev_iinc (x4 + 1) dX10_fillsServe_53 rfl rfl (okp_of rfl) ?_
    refine Ev_goto 18 dX10_fillsServe_56 (by decide) ?_
    exact h
set_option maxHeartbeats 4000000 in
set_option maxRecDepth 100000 in
theorem X10_fillsWhere_ok {d : Nat} {x1 : Int32} {x2 : Int32} {x3 : Int32} {μ μ' : Mem} (h : (∀ μ1 : Mem, μ1 = sI μ 0 56 (-1) → X10_fillsWhere_at8 d x1 x2 x3 0 μ1 μ')) : X10_fillsWhere (d + 1) x1 x2 x3 μ μ' := by
  refine Me_of [some (vr 10 0 0), some (vi x1), some (vi x2), some (vi x3), none, none, none] rfl (Nat.le_of_ble_eq_true rfl) (by decide) ?_
  refine Ev_aload_n dX10_fillsWhere_0 rfl ?_
  refine Ev_iconst (-1) dX10_fillsWhere_1 (by decide) ?_
  refine Ev_putI .int flX10_411 fpX10_56 rfl rfl rfl dX10_fillsWhere_2 ?_
  have h := h _ rfl
  refine Ev_iconst 0 dX10_fillsWhere_5 (by decide) ?_
  refine Ev_istore dX10_fillsWhere_6 (Nat.le_of_ble_eq_true rfl) (okp_of rfl) ?_
  exact h
set_option maxHeartbeats 4000000 in
set_option maxRecDepth 100000 in
theorem X10_fillsWhere_at8_ok {d : Nat} {x1 : Int32} {x2 : Int32} {x3 : Int32} {x4 : Int32} {μ μ' : Mem} (h : vp_in (μ.1 0 18) 2 ∧ (((μ.1 9 ((μ.1 0 18).toNatClampNeg)) < (x4 + x3) → μ' = μ) ∧ (¬ (μ.1 9 ((μ.1 0 18).toNatClampNeg)) < (x4 + x3) → X10_fillsWhere_at27 d x1 x2 x3 x4 0 μ μ'))) : X10_fillsWhere_at8 d x1 x2 x3 x4 μ μ' := by
  refine Ev_iload dX10_fillsWhere_8 rfl ?_
  refine Ev_iload_n dX10_fillsWhere_10 rfl ?_
  refine Ev_iadd dX10_fillsWhere_11 ?_
  refine Ev_aload_n dX10_fillsWhere_12 rfl ?_
  refine Ev_getF 11 2 9 flX10_43 rfl dX10_fillsWhere_13 ?_
  refine Ev_aload_n dX10_fillsWhere_16 rfl ?_
  refine Ev_getI flX10_239 rfl dX10_fillsWhere_17 ?_
  obtain ⟨g, h⟩ := h
  refine Ev_iald g dX10_fillsWhere_20 ?_
  refine Ev_icmp_gt 105 dX10_fillsWhere_21 (by decide) (fun q => ?_) (fun q => ?_)
  · have h := h.1 q
    subst h
    exact R_v rfl dX10_fillsWhere_105
  · have h := h.2 q
    refine Ev_iconst 0 dX10_fillsWhere_24 (by decide) ?_
    refine Ev_istore dX10_fillsWhere_25 (Nat.le_of_ble_eq_true rfl) (okp_of rfl) ?_
    exact h
set_option maxHeartbeats 4000000 in
set_option maxRecDepth 100000 in
theorem X10_fillsWhere_at27_ok {d : Nat} {x1 : Int32} {x2 : Int32} {x3 : Int32} {x4 : Int32} {x5 : Int32} {μ μ' : Mem} (h : vp_in (μ.1 0 18) 2 ∧ (((μ.1 10 ((μ.1 0 18).toNatClampNeg)) < (x5 + x2) → X10_fillsWhere_at8 d x1 x2 x3 (x4 + 1) μ μ') ∧ (¬ (μ.1 10 ((μ.1 0 18).toNatClampNeg)) < (x5 + x2) → (∃ (y3 : Int32) (μ1 : Mem), X10_moreBy d x1 x2 x3 x5 x4 μ y3 μ1 ∧ (((μ1.1 0 56) < 0 → (∀ μ4 : Mem, μ4 = sI μ1 0 55 y3 → (∀ μ5 : Mem, μ5 = sI μ4 0 56 ((8 * x4) + x5) → X10_fillsWhere_at27 d x1 x2 x3 x4 (x5 + 1) μ5 μ'))) ∧ (¬ (μ1.1 0 56) < 0 → (((μ1.1 0 55) < y3 → (∀ μ6 : Mem, μ6 = sI μ1 0 55 y3 → (∀ μ7 : Mem, μ7 = sI μ6 0 56 ((8 * x4) + x5) → X10_fillsWhere_at27 d x1 x2 x3 x4 (x5 + 1) μ7 μ'))) ∧ (¬ (μ1.1 0 55) < y3 → X10_fillsWhere_at27 d x1 x2 x3 x4 (x5 + 1) μ1 μ')))))))) : X10_fillsWhere_at27 d x1 x2 x3 x4 x5 μ μ' := by
  refine Ev_iload dX10_fillsWhere_27 rfl ?_
  refine Ev_iload_n dX10_fillsWhere_29 rfl ?_
  refine Ev_iadd dX10_fillsWhere_30 ?_
  refine Ev_aload_n dX10_fillsWhere_31 rfl ?_
  refine Ev_getF 11 2 10 flX10_46 rfl dX10_fillsWhere_32 ?_
  refine Ev_aload_n dX10_fillsWhere_35 rfl ?_
  refine Ev_getI flX10_239 rfl dX10_fillsWhere_36 ?_
  obtain ⟨g, h⟩ := h
  refine Ev_iald g dX10_fillsWhere_39 ?_
  refine Ev_icmp_gt 99 dX10_fillsWhere_40 (by decide) (fun q => ?_) (fun q => ?_)
  · have h := h.1 q
    refine Ev_iinc (x4 + 1) dX10_fillsWhere_99 rfl rfl (okp_of rfl) ?_
    refine Ev_goto 8 dX10_fillsWhere_102 (by decide) ?_
    refine Ev_weak ?_ h
    exact And.intro rfl (And.intro rfl (And.intro rfl (And.intro rfl (And.intro rfl (And.intro trivial (And.intro trivial (trivial)))))))
  · have h := h.2 q
    refine Ev_aload_n dX10_fillsWhere_43 rfl ?_
    refine Ev_iload_n dX10_fillsWhere_44 rfl ?_
    refine Ev_iload_n dX10_fillsWhere_45 rfl ?_
    refine Ev_iload_n dX10_fillsWhere_46 rfl ?_
    refine Ev_iload dX10_fillsWhere_47 rfl ?_
    refine Ev_iload dX10_fillsWhere_49 rfl ?_
    obtain ⟨y3, μ1, hM2, h⟩ := h
    refine Ev_callV [_, _, _, _, _] mlX10_414 rfl rfl (Nat.le_of_ble_eq_true rfl) dX10_fillsWhere_51 hM2 ?_
    refine Ev_istore dX10_fillsWhere_54 (Nat.le_of_ble_eq_true rfl) (okp_of rfl) ?_
    refine Ev_aload_n dX10_fillsWhere_56 rfl ?_
    refine Ev_getI flX10_411 rfl dX10_fillsWhere_57 ?_
    refine Ev_if_lt 75 dX10_fillsWhere_60 (by decide) (fun q => ?_) (fun q => ?_)
    · have h := h.1 q
      refine Ev_aload_n dX10_fillsWhere_75 rfl ?_
      refine Ev_iload dX10_fillsWhere_76 rfl ?_
      refine Ev_putI .int flX10_417 fpX10_55 rfl rfl rfl dX10_fillsWhere_78 ?_
      have h := h _ rfl
      refine Ev_aload_n dX10_fillsWhere_81 rfl ?_
      refine Ev_bipush 8 dX10_fillsWhere_82 (by decide) ?_
      refine Ev_iload dX10_fillsWhere_84 rfl ?_
      refine Ev_imul dX10_fillsWhere_86 ?_
      refine Ev_iload dX10_fillsWhere_87 rfl ?_
      refine Ev_iadd dX10_fillsWhere_89 ?_
      refine Ev_putI .int flX10_411 fpX10_56 rfl rfl rfl dX10_fillsWhere_90 ?_
      have h := h _ rfl
      refine Ev_iinc (x5 + 1) dX10_fillsWhere_93 rfl rfl (okp_of rfl) ?_
      refine Ev_goto 27 dX10_fillsWhere_96 (by decide) ?_
      refine Ev_weak ?_ h
      exact And.intro rfl (And.intro rfl (And.intro rfl (And.intro rfl (And.intro rfl (And.intro rfl (And.intro trivial (trivial)))))))
    · have h := h.2 q
      refine Ev_iload dX10_fillsWhere_63 rfl ?_
      refine Ev_aload_n dX10_fillsWhere_65 rfl ?_
      refine Ev_getI flX10_417 rfl dX10_fillsWhere_66 ?_
      refine Ev_icmp_gt 75 dX10_fillsWhere_69 (by decide) (fun q => ?_) (fun q => ?_)
      · have h := h.1 q
        refine Ev_aload_n dX10_fillsWhere_75 rfl ?_
        refine Ev_iload dX10_fillsWhere_76 rfl ?_
        refine Ev_putI .int flX10_417 fpX10_55 rfl rfl rfl dX10_fillsWhere_78 ?_
        have h := h _ rfl
        refine Ev_aload_n dX10_fillsWhere_81 rfl ?_
        refine Ev_bipush 8 dX10_fillsWhere_82 (by decide) ?_
        refine Ev_iload dX10_fillsWhere_84 rfl ?_
        refine Ev_imul dX10_fillsWhere_86 ?_
        refine Ev_iload dX10_fillsWhere_87 rfl ?_
        refine Ev_iadd dX10_fillsWhere_89 ?_
        refine Ev_putI .int flX10_411 fpX10_56 rfl rfl rfl dX10_fillsWhere_90 ?_
        have h := h _ rfl
        refine Ev_iinc (x5 + 1) dX10_fillsWhere_93 rfl rfl (okp_of rfl) ?_
        refine Ev_goto 27 dX10_fillsWhere_96 (by decide) ?_
        refine Ev_weak ?_ h
        exact And.intro rfl (And.intro rfl (And.intro rfl (And.intro rfl (And.intro rfl (And.intro rfl (And.intro trivial (trivial)))))))
      · have h := h.2 q
        refine Ev_goto 93 dX10_fillsWhere_72 (by decide) ?_
        refine Ev_iinc (x5 + 1) dX10_fillsWhere_93 rfl rfl (okp_of rfl) ?_
        refine Ev_goto 27 dX10_fillsWhere_96 (by decide) ?_
        refine Ev_weak ?_ h
        exact And.intro rfl (And.intro rfl (And.intro rfl (And.intro rfl (And.intro rfl (And.intro rfl (And.intro trivial (trivial)))))))
set_option maxHeartbeats 4000000 in
set_option maxRecDepth 100000 in
theorem X10_flips_ok {d : Nat} {x1 : Int32} {x2 : Int32} {μ μ' : Mem} (h : vp_in x1 4 ∧ X10_flips_at22 d x1 x2 (((1 <<< ((μ.1 36 x1.toNatClampNeg) &&& 31)) - 1) <<< ((x2 - x2 / 8 * 8) &&& 31)) (x2 / 8) μ μ') : X10_flips d x1 x2 μ μ' := by
  refine Me_of [some (vr 10 0 0), some (vi x1), some (vi x2), none, none] rfl (Nat.le_of_ble_eq_true rfl) (by decide) ?_
  refine Ev_iconst 1 dX10_flips_0 (by decide) ?_
  refine Ev_aload_n dX10_flips_1 rfl ?_
  refine Ev_getF 11 4 36 flX10_125 rfl dX10_flips_2 ?_
  refine Ev_iload_n dX10_flips_5 rfl ?_
  obtain ⟨g, h⟩ := h
  refine Ev_iald g dX10_flips_6 ?_
  refine Ev_ishl dX10_flips_7 ?_
  refine Ev_iconst 1 dX10_flips_8 (by decide) ?_
  refine Ev_isub dX10_flips_9 ?_
  refine Ev_iload_n dX10_flips_10 rfl ?_
  refine Ev_bipush 8 dX10_flips_11 (by decide) ?_
  refine Ev_irem dX10_flips_13 (by decide) ?_
  refine Ev_ishl dX10_flips_14 ?_
  refine Ev_istore_n dX10_flips_15 (Nat.le_of_ble_eq_true rfl) (okp_of rfl) ?_
  refine Ev_iload_n dX10_flips_16 rfl ?_
  refine Ev_bipush 8 dX10_flips_17 (by decide) ?_
  refine Ev_idiv dX10_flips_19 (by decide) ?_
  refine Ev_istore dX10_flips_20 (Nat.le_of_ble_eq_true rfl) (okp_of rfl) ?_
  exact h
set_option maxHeartbeats 4000000 in
set_option maxRecDepth 100000 in
theorem X10_flips_at22_ok {d : Nat} {x1 : Int32} {x2 : Int32} {x3 : Int32} {x4 : Int32} {μ μ' : Mem} (h : vp_in x1 4 ∧ ((((x2 / 8) + (μ.1 37 x1.toNatClampNeg)) ≤ x4 → μ' = μ) ∧ (¬ ((x2 / 8) + (μ.1 37 x1.toNatClampNeg)) ≤ x4 → vp_in x4 24 ∧ vp_in x4 24 ∧ (∀ μ1 : Mem, μ1 = sI μ 39 x4.toNatClampNeg ((μ.1 39 x4.toNatClampNeg) ^^^ x3) → X10_flips_at22 d x1 x2 x3 (x4 + 1) μ1 μ')))) : X10_flips_at22 d x1 x2 x3 x4 μ μ' := by
  refine Ev_iload dX10_flips_22 rfl ?_
  refine Ev_iload_n dX10_flips_24 rfl ?_
  refine Ev_bipush 8 dX10_flips_25 (by decide) ?_
  refine Ev_idiv dX10_flips_27 (by decide) ?_
  refine Ev_aload_n dX10_flips_28 rfl ?_
  refine Ev_getF 11 4 37 flX10_128 rfl dX10_flips_29 ?_
  refine Ev_iload_n dX10_flips_32 rfl ?_
  obtain ⟨g, h⟩ := h
  refine Ev_iald g dX10_flips_33 ?_
  refine Ev_iadd dX10_flips_34 ?_
  refine Ev_icmp_ge 55 dX10_flips_35 (by decide) (fun q => ?_) (fun q => ?_)
  · have h := h.1 q
    subst h
    exact R_v rfl dX10_flips_55
  · have h := h.2 q
    refine Ev_aload_n dX10_flips_38 rfl ?_
    refine Ev_getF 11 24 39 flX10_134 rfl dX10_flips_39 ?_
    refine Ev_iload dX10_flips_42 rfl ?_
    refine Ev_dup2 dX10_flips_44 ?_
    obtain ⟨g, h⟩ := h
    refine Ev_iald g dX10_flips_45 ?_
    refine Ev_iload_n dX10_flips_46 rfl ?_
    refine Ev_ixor dX10_flips_47 ?_
    obtain ⟨g, h⟩ := h
    refine Ev_iast g dX10_flips_48 ?_
    have h := h _ rfl
    refine Ev_iinc (x4 + 1) dX10_flips_49 rfl rfl (okp_of rfl) ?_
    refine Ev_goto 22 dX10_flips_52 (by decide) ?_
    exact h
set_option maxHeartbeats 4000000 in
set_option maxRecDepth 100000 in
theorem X10_forget_ok {d : Nat}  {μ μ' : Mem} {x : Int32} (h : (∀ μ1 : Mem, μ1 = sI μ 0 65 0 → (x = μ.1 0 65 ∧ μ' = μ1))) : X10_forget d μ x μ' := by
  refine Me_of [some (vr 10 0 0), none] rfl (Nat.le_of_ble_eq_true rfl) (by decide) ?_
  refine Ev_aload_n dX10_forget_0 rfl ?_
  refine Ev_getI flX10_268 rfl dX10_forget_1 ?_
  refine Ev_istore_n dX10_forget_4 (Nat.le_of_ble_eq_true rfl) (okp_of rfl) ?_
  refine Ev_aload_n dX10_forget_5 rfl ?_
  refine Ev_iconst 0 dX10_forget_6 (by decide) ?_
  refine Ev_putI .int flX10_268 fpX10_65 rfl rfl rfl dX10_forget_7 ?_
  have h := h _ rfl
  refine Ev_iload_n dX10_forget_10 rfl ?_
  obtain ⟨rfl, rfl⟩ := h
  exact R_i rfl dX10_forget_11 rfl
set_option maxHeartbeats 4000000 in
set_option maxRecDepth 100000 in
theorem X10_goes_ok {d : Nat} {x1 : Int32} {μ μ' : Mem} (h : X10_goes_at2 d x1 0 μ μ') : X10_goes (d + 1) x1 μ μ' := by
  refine Me_of [some (vr 10 0 0), some (vi x1), none] rfl (Nat.le_of_ble_eq_true rfl) (by decide) ?_
  refine Ev_iconst 0 dX10_goes_0 (by decide) ?_
  refine Ev_istore_n dX10_goes_1 (Nat.le_of_ble_eq_true rfl) (okp_of rfl) ?_
  exact h
set_option maxHeartbeats 4000000 in
set_option maxRecDepth 100000 in
theorem X10_goes_at2_ok {d : Nat} {x1 : Int32} {x2 : Int32} {μ μ' : Mem} (h : ((x1 ≤ x2 → μ' = μ) ∧ (¬ x1 ≤ x2 → (∃ (μ1 : Mem), X10_dayGoes d μ μ1 ∧ X10_goes_at2 d x1 (x2 + 1) μ1 μ')))) : X10_goes_at2 d x1 x2 μ μ' := by
  refine Ev_iload_n dX10_goes_2 rfl ?_
  refine Ev_iload_n dX10_goes_3 rfl ?_
  refine Ev_icmp_ge 17 dX10_goes_4 (by decide) (fun q => ?_) (fun q => ?_)
  · have h := h.1 q
    subst h
    exact R_v rfl dX10_goes_17
  · have h := h.2 q
    refine Ev_aload_n dX10_goes_7 rfl ?_
    obtain ⟨μ1, hM2, h⟩ := h
    refine Ev_callV [] mlX10_378 rfl rfl (Nat.le_of_ble_eq_true rfl) dX10_goes_8 hM2 ?_
    refine Ev_iinc (x2 + 1) dX10_goes_11 rfl rfl (okp_of rfl) ?_
    refine Ev_goto 2 dX10_goes_14 (by decide) ?_
    exact h
set_option maxHeartbeats 4000000 in
set_option maxRecDepth 100000 in
theorem X10_goesIn_ok {d : Nat} {x1 : Int32} {μ μ' : Mem} {x : Int32} (h : X10_goesIn_at2 d x1 0 μ x μ') : X10_goesIn (d + 1) x1 μ x μ' := by
  refine Me_of [some (vr 10 0 0), some (vi x1), none, none, none] rfl (Nat.le_of_ble_eq_true rfl) (by decide) ?_
  refine Ev_iconst 0 dX10_goesIn_0 (by decide) ?_
  refine Ev_istore_n dX10_goesIn_1 (Nat.le_of_ble_eq_true rfl) (okp_of rfl) ?_
  exact h
set_option maxHeartbeats 4000000 in
set_option maxRecDepth 100000 in
theorem X10_goesIn_at2_ok {d : Nat} {x1 : Int32} {x2 : Int32} {μ μ' : Mem} {x : Int32} (h : ((24 ≤ x2 → X10_goesIn_at25 d x1 0 0 μ x μ') ∧ (¬ 24 ≤ x2 → vp_in x2 24 ∧ (∀ μ1 : Mem, μ1 = sI μ 39 x2.toNatClampNeg 0 → X10_goesIn_at2 d x1 (x2 + 1) μ1 x μ')))) : X10_goesIn_at2 d x1 x2 μ x μ' := by
  refine Ev_iload_n dX10_goesIn_2 rfl ?_
  refine Ev_bipush 24 dX10_goesIn_3 (by decide) ?_
  refine Ev_icmp_ge 21 dX10_goesIn_5 (by decide) (fun q => ?_) (fun q => ?_)
  · have h := h.1 q
    refine Ev_iconst 0 dX10_goesIn_21 (by decide) ?_
    refine Ev_istore_n dX10_goesIn_22 (Nat.le_of_ble_eq_true rfl) (okp_of rfl) ?_
    refine Ev_iconst 0 dX10_goesIn_23 (by decide) ?_
    refine Ev_istore_n dX10_goesIn_24 (Nat.le_of_ble_eq_true rfl) (okp_of rfl) ?_
    exact h
  · have h := h.2 q
    refine Ev_aload_n dX10_goesIn_8 rfl ?_
    refine Ev_getF 11 24 39 flX10_134 rfl dX10_goesIn_9 ?_
    refine Ev_iload_n dX10_goesIn_12 rfl ?_
    refine Ev_iconst 0 dX10_goesIn_13 (by decide) ?_
    obtain ⟨g, h⟩ := h
    refine Ev_iast g dX10_goesIn_14 ?_
    have h := h _ rfl
    refine Ev_iinc (x2 + 1) dX10_goesIn_15 rfl rfl (okp_of rfl) ?_
    refine Ev_goto 2 dX10_goesIn_18 (by decide) ?_
    exact h
set_option maxHeartbeats 4000000 in
set_option maxRecDepth 100000 in
theorem X10_goesIn_at25_ok {d : Nat} {x1 : Int32} {x2 : Int32} {x3 : Int32} {μ μ' : Mem} {x : Int32} (h : ((x2 < 0 → (x = 1 ∧ μ' = μ)) ∧ (¬ x2 < 0 → (((μ.1 0 61) ≤ x2 → (x = 1 ∧ μ' = μ)) ∧ (¬ (μ.1 0 61) ≤ x2 → (∃ (y3 : Int32) (μ1 : Mem), X10_nextPlace d x2 x3 x1 μ y3 μ1 ∧ ((y3 < 0 → ((0 ≤ (x2 + (-1)) → vp_in (x2 + (-1)) 4 ∧ (∃ (μ4 : Mem), X10_flips d (x2 + (-1)) (μ1.1 38 ((x2 + (-1)).toNatClampNeg)) μ1 μ4 ∧ vp_in (x2 + (-1)) 4 ∧ X10_goesIn_at25 d x1 (x2 + (-1)) ((μ4.1 38 ((x2 + (-1)).toNatClampNeg)) + 1) μ4 x μ')) ∧ (¬ 0 ≤ (x2 + (-1)) → (x = 0 ∧ μ' = μ1)))) ∧ (¬ y3 < 0 → vp_in x2 4 ∧ (∀ μ6 : Mem, μ6 = sI μ1 38 x2.toNatClampNeg y3 → (∃ (μ7 : Mem), X10_flips d x2 y3 μ6 μ7 ∧ X10_goesIn_at25 d x1 (x2 + 1) 0 μ7 x μ')))))))))) : X10_goesIn_at25 d x1 x2 x3 μ x μ' := by
  refine Ev_iload_n dX10_goesIn_25 rfl ?_
  refine Ev_if_lt 106 dX10_goesIn_26 (by decide) (fun q => ?_) (fun q => ?_)
  · have h := h.1 q
    refine Ev_iconst 1 dX10_goesIn_106 (by decide) ?_
    obtain ⟨rfl, rfl⟩ := h
    exact R_i rfl dX10_goesIn_107 rfl
  · have h := h.2 q
    refine Ev_iload_n dX10_goesIn_29 rfl ?_
    refine Ev_aload_n dX10_goesIn_30 rfl ?_
    refine Ev_getI flX10_427 rfl dX10_goesIn_31 ?_
    refine Ev_icmp_ge 106 dX10_goesIn_34 (by decide) (fun q => ?_) (fun q => ?_)
    · have h := h.1 q
      refine Ev_iconst 1 dX10_goesIn_106 (by decide) ?_
      obtain ⟨rfl, rfl⟩ := h
      exact R_i rfl dX10_goesIn_107 rfl
    · have h := h.2 q
      refine Ev_aload_n dX10_goesIn_37 rfl ?_
      refine Ev_iload_n dX10_goesIn_38 rfl ?_
      refine Ev_iload_n dX10_goesIn_39 rfl ?_
      refine Ev_iload_n dX10_goesIn_40 rfl ?_
      obtain ⟨y3, μ1, hM2, h⟩ := h
      refine Ev_callV [_, _, _] mlX10_430 rfl rfl (Nat.le_of_ble_eq_true rfl) dX10_goesIn_41 hM2 ?_
      refine Ev_istore dX10_goesIn_44 (Nat.le_of_ble_eq_true rfl) (okp_of rfl) ?_
      refine Ev_iload dX10_goesIn_46 rfl ?_
      refine Ev_if_lt 74 dX10_goesIn_48 (by decide) (fun q => ?_) (fun q => ?_)
      · have h := h.1 q
        refine Ev_iinc (x2 + (-1)) dX10_goesIn_74 rfl rfl (okp_of rfl) ?_
        refine Ev_iload_n dX10_goesIn_77 rfl ?_
        refine Ev_if_ge 83 dX10_goesIn_78 (by decide) (fun q => ?_) (fun q => ?_)
        · have h := h.1 q
          refine Ev_aload_n dX10_goesIn_83 rfl ?_
          refine Ev_iload_n dX10_goesIn_84 rfl ?_
          refine Ev_aload_n dX10_goesIn_85 rfl ?_
          refine Ev_getF 11 4 38 flX10_131 rfl dX10_goesIn_86 ?_
          refine Ev_iload_n dX10_goesIn_89 rfl ?_
          obtain ⟨g, h⟩ := h
          refine Ev_iald g dX10_goesIn_90 ?_
          obtain ⟨μ4, hM5, h⟩ := h
          refine Ev_callV [_, _] mlX10_433 rfl rfl (Nat.le_of_ble_eq_true rfl) dX10_goesIn_91 hM5 ?_
          refine Ev_aload_n dX10_goesIn_94 rfl ?_
          refine Ev_getF 11 4 38 flX10_131 rfl dX10_goesIn_95 ?_
          refine Ev_iload_n dX10_goesIn_98 rfl ?_
          obtain ⟨g, h⟩ := h
          refine Ev_iald g dX10_goesIn_99 ?_
          refine Ev_iconst 1 dX10_goesIn_100 (by decide) ?_
          refine Ev_iadd dX10_goesIn_101 ?_
          refine Ev_istore_n dX10_goesIn_102 (Nat.le_of_ble_eq_true rfl) (okp_of rfl) ?_
          refine Ev_goto 25 dX10_goesIn_103 (by decide) ?_
          refine Ev_weak ?_ h
          exact And.intro rfl (And.intro rfl (And.intro rfl (And.intro rfl (And.intro trivial (trivial)))))
        · have h := h.2 q
          refine Ev_iconst 0 dX10_goesIn_81 (by decide) ?_
          obtain ⟨rfl, rfl⟩ := h
          exact R_i rfl dX10_goesIn_82 rfl
      · have h := h.2 q
        refine Ev_aload_n dX10_goesIn_51 rfl ?_
        refine Ev_getF 11 4 38 flX10_131 rfl dX10_goesIn_52 ?_
        refine Ev_iload_n dX10_goesIn_55 rfl ?_
        refine Ev_iload dX10_goesIn_56 rfl ?_
        obtain ⟨g, h⟩ := h
        refine Ev_iast g dX10_goesIn_58 ?_
        have h := h _ rfl
        refine Ev_aload_n dX10_goesIn_59 rfl ?_
        refine Ev_iload_n dX10_goesIn_60 rfl ?_
        refine Ev_iload dX10_goesIn_61 rfl ?_
        obtain ⟨μ7, hM8, h⟩ := h
        refine Ev_callV [_, _] mlX10_433 rfl rfl (Nat.le_of_ble_eq_true rfl) dX10_goesIn_63 hM8 ?_
        refine Ev_iinc (x2 + 1) dX10_goesIn_66 rfl rfl (okp_of rfl) ?_
        refine Ev_iconst 0 dX10_goesIn_69 (by decide) ?_
        refine Ev_istore_n dX10_goesIn_70 (Nat.le_of_ble_eq_true rfl) (okp_of rfl) ?_
        refine Ev_goto 25 dX10_goesIn_71 (by decide) ?_
        refine Ev_weak ?_ h
        exact And.intro rfl (And.intro rfl (And.intro rfl (And.intro rfl (And.intro trivial (trivial)))))
set_option maxHeartbeats 4000000 in
set_option maxRecDepth 100000 in
theorem X10_goesOn_ok {d : Nat}  {μ μ' : Mem} (h : (((μ.1 0 11) ≠ 400 → (∀ μ1 : Mem, μ1 = sI μ 0 11 ((μ.1 0 11) + 1) → μ' = μ1)) ∧ ((μ.1 0 11) = 400 → (∃ (μ2 : Mem), X10_fail d 2 μ μ2 ∧ μ' = μ2)))) : X10_goesOn (d + 1) μ μ' := by
  refine Me_of [some (vr 10 0 0)] rfl (Nat.le_of_ble_eq_true rfl) (by decide) ?_
  refine Ev_aload_n dX10_goesOn_0 rfl ?_
  refine Ev_getI flX10_212 rfl dX10_goesOn_1 ?_
  refine Ev_sipush 400 dX10_goesOn_4 (by decide) ?_
  refine Ev_icmp_ne 18 dX10_goesOn_7 (by decide) (fun q => ?_) (fun q => ?_)
  · have h := h.1 q
    refine Ev_aload_n dX10_goesOn_18 rfl ?_
    refine Ev_dup dX10_goesOn_19 (fun _ z => by cases z) ?_
    refine Ev_getI flX10_212 rfl dX10_goesOn_20 ?_
    refine Ev_iconst 1 dX10_goesOn_23 (by decide) ?_
    refine Ev_iadd dX10_goesOn_24 ?_
    refine Ev_putI .int flX10_212 fpX10_11 rfl rfl rfl dX10_goesOn_25 ?_
    have h := h _ rfl
    subst h
    exact R_v rfl dX10_goesOn_28
  · have h := h.2 q
    refine Ev_aload_n dX10_goesOn_10 rfl ?_
    refine Ev_iconst 2 dX10_goesOn_11 (by decide) ?_
    obtain ⟨μ2, hM3, h⟩ := h
    refine Ev_callV [_] mlX10_224 rfl rfl (Nat.le_of_ble_eq_true rfl) dX10_goesOn_12 hM3 ?_
    refine Ev_goto 28 dX10_goesOn_15 (by decide) ?_
    subst h
    exact R_v rfl dX10_goesOn_28
set_option maxHeartbeats 4000000 in
set_option maxRecDepth 100000 in
theorem X10_heldBy_ok {d : Nat} {x1 : Int32} {x2 : Int32} {x3 : Int32} {μ μ' : Mem} {x : Int32} (h : X10_heldBy_at6 d x1 x2 x3 0 0 μ x μ') : X10_heldBy (d + 1) x1 x2 x3 μ x μ' := by
  refine Me_of [some (vr 10 0 0), some (vi x1), some (vi x2), some (vi x3), none, none] rfl (Nat.le_of_ble_eq_true rfl) (by decide) ?_
  refine Ev_iconst 0 dX10_heldBy_0 (by decide) ?_
  refine Ev_istore dX10_heldBy_1 (Nat.le_of_ble_eq_true rfl) (okp_of rfl) ?_
  refine Ev_iconst 0 dX10_heldBy_3 (by decide) ?_
  refine Ev_istore dX10_heldBy_4 (Nat.le_of_ble_eq_true rfl) (okp_of rfl) ?_
  exact h
set_option maxHeartbeats 4000000 in
set_option maxRecDepth 100000 in
theorem X10_heldBy_at6_ok {d : Nat} {x1 : Int32} {x2 : Int32} {x3 : Int32} {x4 : Int32} {x5 : Int32} {μ μ' : Mem} {x : Int32} (h : (((x2 * x3) ≤ x5 → (x = x4 ∧ μ' = μ)) ∧ (¬ (x2 * x3) ≤ x5 → ¬ x2 = 0 ∧ vp_in (48 + x1) 92 ∧ ¬ x2 = 0 ∧ (∃ (y3 : Int32) (μ1 : Mem), X10_threadOf d x1 (x5 - x5 / x2 * x2) ((μ.1 33 ((48 + x1).toNatClampNeg)) + (x5 / x2)) μ y3 μ1 ∧ X10_heldBy_at6 d x1 x2 x3 (x4 + y3) (x5 + 1) μ1 x μ')))) : X10_heldBy_at6 d x1 x2 x3 x4 x5 μ x μ' := by
  refine Ev_iload dX10_heldBy_6 rfl ?_
  refine Ev_iload_n dX10_heldBy_8 rfl ?_
  refine Ev_iload_n dX10_heldBy_9 rfl ?_
  refine Ev_imul dX10_heldBy_10 ?_
  refine Ev_icmp_ge 48 dX10_heldBy_11 (by decide) (fun q => ?_) (fun q => ?_)
  · have h := h.1 q
    refine Ev_iload dX10_heldBy_48 rfl ?_
    obtain ⟨rfl, rfl⟩ := h
    exact R_i rfl dX10_heldBy_50 rfl
  · have h := h.2 q
    refine Ev_iload dX10_heldBy_14 rfl ?_
    refine Ev_aload_n dX10_heldBy_16 rfl ?_
    refine Ev_iload_n dX10_heldBy_17 rfl ?_
    refine Ev_iload dX10_heldBy_18 rfl ?_
    refine Ev_iload_n dX10_heldBy_20 rfl ?_
    obtain ⟨g, h⟩ := h
    refine Ev_irem dX10_heldBy_21 g ?_
    refine Ev_aload_n dX10_heldBy_22 rfl ?_
    refine Ev_getF 11 92 33 flX10_116 rfl dX10_heldBy_23 ?_
    refine Ev_bipush 48 dX10_heldBy_26 (by decide) ?_
    refine Ev_iload_n dX10_heldBy_28 rfl ?_
    refine Ev_iadd dX10_heldBy_29 ?_
    obtain ⟨g, h⟩ := h
    refine Ev_iald g dX10_heldBy_30 ?_
    refine Ev_iload dX10_heldBy_31 rfl ?_
    refine Ev_iload_n dX10_heldBy_33 rfl ?_
    obtain ⟨g, h⟩ := h
    refine Ev_idiv dX10_heldBy_34 g ?_
    refine Ev_iadd dX10_heldBy_35 ?_
    obtain ⟨y3, μ1, hM2, h⟩ := h
    refine Ev_callV [_, _, _] mlX10_356 rfl rfl (Nat.le_of_ble_eq_true rfl) dX10_heldBy_36 hM2 ?_
    refine Ev_iadd dX10_heldBy_39 ?_
    refine Ev_istore dX10_heldBy_40 (Nat.le_of_ble_eq_true rfl) (okp_of rfl) ?_
    refine Ev_iinc (x5 + 1) dX10_heldBy_42 rfl rfl (okp_of rfl) ?_
    refine Ev_goto 6 dX10_heldBy_45 (by decide) ?_
    exact h
set_option maxHeartbeats 4000000 in
set_option maxRecDepth 100000 in
theorem X10_hold_ok {d : Nat} {x1 : Int32} {μ μ' : Mem} {x : Int32} (h : (∃ (y3 : Int32) (μ1 : Mem), X10_in d x1 0 2 μ y3 μ1 ∧ ((y3 ≠ 0 → vp_in x1 3 ∧ (∀ μ4 : Mem, μ4 = sI μ1 45 x1.toNatClampNeg (vp_nar .boolean 1) → X10_hold_at20 d x1 0 μ4 x μ')) ∧ (y3 = 0 → (x = 0 ∧ μ' = μ1))))) : X10_hold (d + 1) x1 μ x μ' := by
  refine Me_of [some (vr 10 0 0), some (vi x1), none] rfl (Nat.le_of_ble_eq_true rfl) (by decide) ?_
  refine Ev_iload_n dX10_hold_0 rfl ?_
  refine Ev_iconst 0 dX10_hold_1 (by decide) ?_
  refine Ev_iconst 2 dX10_hold_2 (by decide) ?_
  obtain ⟨y3, μ1, hM2, h⟩ := h
  refine Ev_callS [_, _, _] mlX10_323 rfl rfl (Nat.le_of_ble_eq_true rfl) dX10_hold_3 hM2 ?_
  refine Ev_if_ne 11 dX10_hold_6 (by decide) (fun q => ?_) (fun q => ?_)
  · have h := h.1 q
    refine Ev_aload_n dX10_hold_11 rfl ?_
    refine Ev_getF 14 3 45 flX10_152 rfl dX10_hold_12 ?_
    refine Ev_iload_n dX10_hold_15 rfl ?_
    refine Ev_iconst 1 dX10_hold_16 (by decide) ?_
    obtain ⟨g, h⟩ := h
    refine Ev_zast g dX10_hold_17 ?_
    have h := h _ rfl
    refine Ev_iconst 0 dX10_hold_18 (by decide) ?_
    refine Ev_istore_n dX10_hold_19 (Nat.le_of_ble_eq_true rfl) (okp_of rfl) ?_
    exact h
  · have h := h.2 q
    refine Ev_iconst 0 dX10_hold_9 (by decide) ?_
    obtain ⟨rfl, rfl⟩ := h
    exact R_i rfl dX10_hold_10 rfl
set_option maxHeartbeats 4000000 in
set_option maxRecDepth 100000 in
theorem X10_hold_at20_ok {d : Nat} {x1 : Int32} {x2 : Int32} {μ μ' : Mem} {x : Int32} (h : ((92 ≤ x2 → (x = 1 ∧ μ' = μ)) ∧ (¬ 92 ≤ x2 → vp_in x2 92 ∧ vp_in ((92 * x1) + x2) 276 ∧ (∀ μ1 : Mem, μ1 = sI μ 46 (((92 * x1) + x2).toNatClampNeg) (μ.1 33 x2.toNatClampNeg) → X10_hold_at20 d x1 (x2 + 1) μ1 x μ')))) : X10_hold_at20 d x1 x2 μ x μ' := by
  refine Ev_iload_n dX10_hold_20 rfl ?_
  refine Ev_bipush 92 dX10_hold_21 (by decide) ?_
  refine Ev_icmp_ge 49 dX10_hold_23 (by decide) (fun q => ?_) (fun q => ?_)
  · have h := h.1 q
    refine Ev_iconst 1 dX10_hold_49 (by decide) ?_
    obtain ⟨rfl, rfl⟩ := h
    exact R_i rfl dX10_hold_50 rfl
  · have h := h.2 q
    refine Ev_aload_n dX10_hold_26 rfl ?_
    refine Ev_getF 11 276 46 flX10_155 rfl dX10_hold_27 ?_
    refine Ev_bipush 92 dX10_hold_30 (by decide) ?_
    refine Ev_iload_n dX10_hold_32 rfl ?_
    refine Ev_imul dX10_hold_33 ?_
    refine Ev_iload_n dX10_hold_34 rfl ?_
    refine Ev_iadd dX10_hold_35 ?_
    refine Ev_aload_n dX10_hold_36 rfl ?_
    refine Ev_getF 11 92 33 flX10_116 rfl dX10_hold_37 ?_
    refine Ev_iload_n dX10_hold_40 rfl ?_
    obtain ⟨g, h⟩ := h
    refine Ev_iald g dX10_hold_41 ?_
    obtain ⟨g, h⟩ := h
    refine Ev_iast g dX10_hold_42 ?_
    have h := h _ rfl
    refine Ev_iinc (x2 + 1) dX10_hold_43 rfl rfl (okp_of rfl) ?_
    refine Ev_goto 20 dX10_hold_46 (by decide) ?_
    exact h
set_option maxHeartbeats 4000000 in
set_option maxRecDepth 100000 in
theorem X10_holds_ok {d : Nat} {x1 : Int32} {x2 : Int32} {x3 : Int32} {x4 : Int32} {μ μ' : Mem} {x : Int32} (h : (∃ (y3 : Int32) (μ1 : Mem), X10_isPiece d x1 x2 x3 μ y3 μ1 ∧ ((y3 ≠ 0 → ((x4 ≠ 0 → X10_holds_at31 d x1 x2 x3 0 0 μ1 x μ') ∧ (x4 = 0 → (∃ (y6 : Int32) (μ4 : Mem), X10_heldBy d x1 x2 x3 μ1 y6 μ4 ∧ (x = y6 ∧ μ' = μ4))))) ∧ (y3 = 0 → (x = (-1) ∧ μ' = μ1))))) : X10_holds (d + 1) x1 x2 x3 x4 μ x μ' := by
  refine Me_of [some (vr 10 0 0), some (vi x1), some (vi x2), some (vi x3), some (vi x4), none, none] rfl (Nat.le_of_ble_eq_true rfl) (by decide) ?_
  refine Ev_aload_n dX10_holds_0 rfl ?_
  refine Ev_iload_n dX10_holds_1 rfl ?_
  refine Ev_iload_n dX10_holds_2 rfl ?_
  refine Ev_iload_n dX10_holds_3 rfl ?_
  obtain ⟨y3, μ1, hM2, h⟩ := h
  refine Ev_callV [_, _, _] mlX10_396 rfl rfl (Nat.le_of_ble_eq_true rfl) dX10_holds_4 hM2 ?_
  refine Ev_if_ne 12 dX10_holds_7 (by decide) (fun q => ?_) (fun q => ?_)
  · have h := h.1 q
    refine Ev_iload dX10_holds_12 rfl ?_
    refine Ev_if_ne 25 dX10_holds_14 (by decide) (fun q => ?_) (fun q => ?_)
    · have h := h.1 q
      refine Ev_iconst 0 dX10_holds_25 (by decide) ?_
      refine Ev_istore dX10_holds_26 (Nat.le_of_ble_eq_true rfl) (okp_of rfl) ?_
      refine Ev_iconst 0 dX10_holds_28 (by decide) ?_
      refine Ev_istore dX10_holds_29 (Nat.le_of_ble_eq_true rfl) (okp_of rfl) ?_
      refine Ev_weak ?_ h
      exact And.intro rfl (And.intro rfl (And.intro rfl (And.intro rfl (And.intro trivial (And.intro rfl (And.intro rfl (trivial)))))))
    · have h := h.2 q
      refine Ev_aload_n dX10_holds_17 rfl ?_
      refine Ev_iload_n dX10_holds_18 rfl ?_
      refine Ev_iload_n dX10_holds_19 rfl ?_
      refine Ev_iload_n dX10_holds_20 rfl ?_
      obtain ⟨y6, μ4, hM5, h⟩ := h
      refine Ev_callV [_, _, _] mlX10_405 rfl rfl (Nat.le_of_ble_eq_true rfl) dX10_holds_21 hM5 ?_
      obtain ⟨rfl, rfl⟩ := h
      exact R_i rfl dX10_holds_24 rfl
  · have h := h.2 q
    refine Ev_iconst (-1) dX10_holds_10 (by decide) ?_
    obtain ⟨rfl, rfl⟩ := h
    exact R_i rfl dX10_holds_11 rfl
set_option maxHeartbeats 4000000 in
set_option maxRecDepth 100000 in
theorem X10_holds_at31_ok {d : Nat} {x1 : Int32} {x2 : Int32} {x3 : Int32} {x5 : Int32} {x6 : Int32} {μ μ' : Mem} {x : Int32} (h : (((x2 * x3) ≤ x6 → (x = x5 ∧ μ' = μ)) ∧ (¬ (x2 * x3) ≤ x6 → ¬ x2 = 0 ∧ vp_in (48 + x1) 92 ∧ ¬ x2 = 0 ∧ (∃ (y3 : Int32) (μ1 : Mem), X10_threadOf d x1 (x6 - x6 / x2 * x2) ((μ.1 33 ((48 + x1).toNatClampNeg)) + (x6 / x2)) μ y3 μ1 ∧ ((y3 ≠ 0 → X10_holds_at31 d x1 x2 x3 x5 (x6 + 1) μ1 x μ') ∧ (y3 = 0 → X10_holds_at31 d x1 x2 x3 (x5 + 1) (x6 + 1) μ1 x μ')))))) : X10_holds_at31 d x1 x2 x3 x5 x6 μ x μ' := by
  refine Ev_iload dX10_holds_31 rfl ?_
  refine Ev_iload_n dX10_holds_33 rfl ?_
  refine Ev_iload_n dX10_holds_34 rfl ?_
  refine Ev_imul dX10_holds_35 ?_
  refine Ev_icmp_ge 74 dX10_holds_36 (by decide) (fun q => ?_) (fun q => ?_)
  · have h := h.1 q
    refine Ev_iload dX10_holds_74 rfl ?_
    obtain ⟨rfl, rfl⟩ := h
    exact R_i rfl dX10_holds_76 rfl
  · have h := h.2 q
    refine Ev_aload_n dX10_holds_39 rfl ?_
    refine Ev_iload_n dX10_holds_40 rfl ?_
    refine Ev_iload dX10_holds_41 rfl ?_
    refine Ev_iload_n dX10_holds_43 rfl ?_
    obtain ⟨g, h⟩ := h
    refine Ev_irem dX10_holds_44 g ?_
    refine Ev_aload_n dX10_holds_45 rfl ?_
    refine Ev_getF 11 92 33 flX10_116 rfl dX10_holds_46 ?_
    refine Ev_bipush 48 dX10_holds_49 (by decide) ?_
    refine Ev_iload_n dX10_holds_51 rfl ?_
    refine Ev_iadd dX10_holds_52 ?_
    obtain ⟨g, h⟩ := h
    refine Ev_iald g dX10_holds_53 ?_
    refine Ev_iload dX10_holds_54 rfl ?_
    refine Ev_iload_n dX10_holds_56 rfl ?_
    obtain ⟨g, h⟩ := h
    refine Ev_idiv dX10_holds_57 g ?_
    refine Ev_iadd dX10_holds_58 ?_
    obtain ⟨y3, μ1, hM2, h⟩ := h
    refine Ev_callV [_, _, _] mlX10_356 rfl rfl (Nat.le_of_ble_eq_true rfl) dX10_holds_59 hM2 ?_
    refine Ev_if_ne 68 dX10_holds_62 (by decide) (fun q => ?_) (fun q => ?_)
    · have h := h.1 q
      refine Ev_iinc (x6 + 1) dX10_holds_68 rfl rfl (okp_of rfl) ?_
      refine Ev_goto 31 dX10_holds_71 (by decide) ?_
      exact h
    · have h := h.2 q
      refine Ev_iinc (x5 + 1) dX10_holds_65 rfl rfl (okp_of rfl) ?_
      refine Ev_iinc (x6 + 1) dX10_holds_68 rfl rfl (okp_of rfl) ?_
      refine Ev_goto 31 dX10_holds_71 (by decide) ?_
      exact h
set_option maxHeartbeats 4000000 in
set_option maxRecDepth 100000 in
theorem X10_in_ok {d : Nat} {x0 : Int32} {x1 : Int32} {x2 : Int32} {μ μ' : Mem} {x : Int32} (h : ((x0 < x1 → (x = 0 ∧ μ' = μ)) ∧ (¬ x0 < x1 → ((x2 < x0 → (x = 0 ∧ μ' = μ)) ∧ (¬ x2 < x0 → (x = 1 ∧ μ' = μ)))))) : X10_in d x0 x1 x2 μ x μ' := by
  refine Me_of [some (vi x0), some (vi x1), some (vi x2)] rfl (Nat.le_of_ble_eq_true rfl) (by decide) ?_
  refine Ev_iload_n dX10_in_0 rfl ?_
  refine Ev_iload_n dX10_in_1 rfl ?_
  refine Ev_icmp_lt 14 dX10_in_2 (by decide) (fun q => ?_) (fun q => ?_)
  · have h := h.1 q
    refine Ev_iconst 0 dX10_in_14 (by decide) ?_
    obtain ⟨rfl, rfl⟩ := h
    exact R_i rfl dX10_in_15 rfl
  · have h := h.2 q
    refine Ev_iload_n dX10_in_5 rfl ?_
    refine Ev_iload_n dX10_in_6 rfl ?_
    refine Ev_icmp_gt 14 dX10_in_7 (by decide) (fun q => ?_) (fun q => ?_)
    · have h := h.1 q
      refine Ev_iconst 0 dX10_in_14 (by decide) ?_
      obtain ⟨rfl, rfl⟩ := h
      exact R_i rfl dX10_in_15 rfl
    · have h := h.2 q
      refine Ev_iconst 1 dX10_in_10 (by decide) ?_
      refine Ev_goto 15 dX10_in_11 (by decide) ?_
      obtain ⟨rfl, rfl⟩ := h
      exact R_i rfl dX10_in_15 rfl
set_option maxHeartbeats 4000000 in
set_option maxRecDepth 100000 in
theorem X10_is_ok {d : Nat} {x1 : Int32} {μ μ' : Mem} {x : Int32} (h : (((μ.1 0 13) ≠ 0 → (x = 0 ∧ μ' = μ)) ∧ ((μ.1 0 13) = 0 → vp_in (μ.1 0 11) 403 ∧ (((μ.1 3 ((μ.1 0 11).toNatClampNeg)) ≠ x1 → (x = 0 ∧ μ' = μ)) ∧ ((μ.1 3 ((μ.1 0 11).toNatClampNeg)) = x1 → (x = 1 ∧ μ' = μ)))))) : X10_is d x1 μ x μ' := by
  refine Me_of [some (vr 10 0 0), some (vi x1)] rfl (Nat.le_of_ble_eq_true rfl) (by decide) ?_
  refine Ev_aload_n dX10_is_0 rfl ?_
  refine Ev_getI flX10_209 rfl dX10_is_1 ?_
  refine Ev_if_ne 24 dX10_is_4 (by decide) (fun q => ?_) (fun q => ?_)
  · have h := h.1 q
    refine Ev_iconst 0 dX10_is_24 (by decide) ?_
    obtain ⟨rfl, rfl⟩ := h
    exact R_i rfl dX10_is_25 rfl
  · have h := h.2 q
    refine Ev_aload_n dX10_is_7 rfl ?_
    refine Ev_getF 11 403 3 flX10_20 rfl dX10_is_8 ?_
    refine Ev_aload_n dX10_is_11 rfl ?_
    refine Ev_getI flX10_212 rfl dX10_is_12 ?_
    obtain ⟨g, h⟩ := h
    refine Ev_iald g dX10_is_15 ?_
    refine Ev_iload_n dX10_is_16 rfl ?_
    refine Ev_icmp_ne 24 dX10_is_17 (by decide) (fun q => ?_) (fun q => ?_)
    · have h := h.1 q
      refine Ev_iconst 0 dX10_is_24 (by decide) ?_
      obtain ⟨rfl, rfl⟩ := h
      exact R_i rfl dX10_is_25 rfl
    · have h := h.2 q
      refine Ev_iconst 1 dX10_is_20 (by decide) ?_
      refine Ev_goto 25 dX10_is_21 (by decide) ?_
      obtain ⟨rfl, rfl⟩ := h
      exact R_i rfl dX10_is_25 rfl
set_option maxHeartbeats 4000000 in
set_option maxRecDepth 100000 in
theorem X10_isAsked_ok {d : Nat} {x1 : Int32} {x2 : Int32} {x3 : Int32} {μ μ' : Mem} {x : Int32} (h : (∃ (y3 : Int32) (μ1 : Mem), X10_in d x1 0 (μ.1 0 65) μ y3 μ1 ∧ ((y3 = 0 → (x = 0 ∧ μ' = μ1)) ∧ (¬ y3 = 0 → (∃ (y6 : Int32) (μ4 : Mem), X10_in d x2 1 8 μ1 y6 μ4 ∧ ((y6 = 0 → (x = 0 ∧ μ' = μ4)) ∧ (¬ y6 = 0 → (∃ (y9 : Int32) (μ7 : Mem), X10_in d x3 1 6 μ4 y9 μ7 ∧ ((y9 = 0 → (x = 0 ∧ μ' = μ7)) ∧ (¬ y9 = 0 → (x = 1 ∧ μ' = μ7))))))))))) : X10_isAsked (d + 1) x1 x2 x3 μ x μ' := by
  refine Me_of [some (vr 10 0 0), some (vi x1), some (vi x2), some (vi x3)] rfl (Nat.le_of_ble_eq_true rfl) (by decide) ?_
  refine Ev_iload_n dX10_isAsked_0 rfl ?_
  refine Ev_iconst 0 dX10_isAsked_1 (by decide) ?_
  refine Ev_aload_n dX10_isAsked_2 rfl ?_
  refine Ev_getI flX10_268 rfl dX10_isAsked_3 ?_
  obtain ⟨y3, μ1, hM2, h⟩ := h
  refine Ev_callS [_, _, _] mlX10_323 rfl rfl (Nat.le_of_ble_eq_true rfl) dX10_isAsked_6 hM2 ?_
  refine Ev_if_eq 36 dX10_isAsked_9 (by decide) (fun q => ?_) (fun q => ?_)
  · have h := h.1 q
    refine Ev_iconst 0 dX10_isAsked_36 (by decide) ?_
    obtain ⟨rfl, rfl⟩ := h
    exact R_i rfl dX10_isAsked_37 rfl
  · have h := h.2 q
    refine Ev_iload_n dX10_isAsked_12 rfl ?_
    refine Ev_iconst 1 dX10_isAsked_13 (by decide) ?_
    refine Ev_bipush 8 dX10_isAsked_14 (by decide) ?_
    obtain ⟨y6, μ4, hM5, h⟩ := h
    refine Ev_callS [_, _, _] mlX10_323 rfl rfl (Nat.le_of_ble_eq_true rfl) dX10_isAsked_16 hM5 ?_
    refine Ev_if_eq 36 dX10_isAsked_19 (by decide) (fun q => ?_) (fun q => ?_)
    · have h := h.1 q
      refine Ev_iconst 0 dX10_isAsked_36 (by decide) ?_
      obtain ⟨rfl, rfl⟩ := h
      exact R_i rfl dX10_isAsked_37 rfl
    · have h := h.2 q
      refine Ev_iload_n dX10_isAsked_22 rfl ?_
      refine Ev_iconst 1 dX10_isAsked_23 (by decide) ?_
      refine Ev_bipush 6 dX10_isAsked_24 (by decide) ?_
      obtain ⟨y9, μ7, hM8, h⟩ := h
      refine Ev_callS [_, _, _] mlX10_323 rfl rfl (Nat.le_of_ble_eq_true rfl) dX10_isAsked_26 hM8 ?_
      refine Ev_if_eq 36 dX10_isAsked_29 (by decide) (fun q => ?_) (fun q => ?_)
      · have h := h.1 q
        refine Ev_iconst 0 dX10_isAsked_36 (by decide) ?_
        obtain ⟨rfl, rfl⟩ := h
        exact R_i rfl dX10_isAsked_37 rfl
      · have h := h.2 q
        refine Ev_iconst 1 dX10_isAsked_32 (by decide) ?_
        refine Ev_goto 37 dX10_isAsked_33 (by decide) ?_
        obtain ⟨rfl, rfl⟩ := h
        exact R_i rfl dX10_isAsked_37 rfl
set_option maxHeartbeats 4000000 in
set_option maxRecDepth 100000 in
theorem X10_isCell_ok {d : Nat} {x1 : Int32} {x2 : Int32} {μ μ' : Mem} {x : Int32} (h : vp_in (μ.1 0 18) 2 ∧ (∃ (y3 : Int32) (μ1 : Mem), X10_in d x1 0 ((μ.1 10 ((μ.1 0 18).toNatClampNeg)) - 1) μ y3 μ1 ∧ ((y3 = 0 → (x = 0 ∧ μ' = μ1)) ∧ (¬ y3 = 0 → vp_in (μ1.1 0 18) 2 ∧ (∃ (y6 : Int32) (μ4 : Mem), X10_in d x2 0 ((μ1.1 9 ((μ1.1 0 18).toNatClampNeg)) - 1) μ1 y6 μ4 ∧ ((y6 = 0 → (x = 0 ∧ μ' = μ4)) ∧ (¬ y6 = 0 → (x = 1 ∧ μ' = μ4)))))))) : X10_isCell (d + 1) x1 x2 μ x μ' := by
  refine Me_of [some (vr 10 0 0), some (vi x1), some (vi x2)] rfl (Nat.le_of_ble_eq_true rfl) (by decide) ?_
  refine Ev_iload_n dX10_isCell_0 rfl ?_
  refine Ev_iconst 0 dX10_isCell_1 (by decide) ?_
  refine Ev_aload_n dX10_isCell_2 rfl ?_
  refine Ev_getF 11 2 10 flX10_46 rfl dX10_isCell_3 ?_
  refine Ev_aload_n dX10_isCell_6 rfl ?_
  refine Ev_getI flX10_239 rfl dX10_isCell_7 ?_
  obtain ⟨g, h⟩ := h
  refine Ev_iald g dX10_isCell_10 ?_
  refine Ev_iconst 1 dX10_isCell_11 (by decide) ?_
  refine Ev_isub dX10_isCell_12 ?_
  obtain ⟨y3, μ1, hM2, h⟩ := h
  refine Ev_callS [_, _, _] mlX10_323 rfl rfl (Nat.le_of_ble_eq_true rfl) dX10_isCell_13 hM2 ?_
  refine Ev_if_eq 42 dX10_isCell_16 (by decide) (fun q => ?_) (fun q => ?_)
  · have h := h.1 q
    refine Ev_iconst 0 dX10_isCell_42 (by decide) ?_
    obtain ⟨rfl, rfl⟩ := h
    exact R_i rfl dX10_isCell_43 rfl
  · have h := h.2 q
    refine Ev_iload_n dX10_isCell_19 rfl ?_
    refine Ev_iconst 0 dX10_isCell_20 (by decide) ?_
    refine Ev_aload_n dX10_isCell_21 rfl ?_
    refine Ev_getF 11 2 9 flX10_43 rfl dX10_isCell_22 ?_
    refine Ev_aload_n dX10_isCell_25 rfl ?_
    refine Ev_getI flX10_239 rfl dX10_isCell_26 ?_
    obtain ⟨g, h⟩ := h
    refine Ev_iald g dX10_isCell_29 ?_
    refine Ev_iconst 1 dX10_isCell_30 (by decide) ?_
    refine Ev_isub dX10_isCell_31 ?_
    obtain ⟨y6, μ4, hM5, h⟩ := h
    refine Ev_callS [_, _, _] mlX10_323 rfl rfl (Nat.le_of_ble_eq_true rfl) dX10_isCell_32 hM5 ?_
    refine Ev_if_eq 42 dX10_isCell_35 (by decide) (fun q => ?_) (fun q => ?_)
    · have h := h.1 q
      refine Ev_iconst 0 dX10_isCell_42 (by decide) ?_
      obtain ⟨rfl, rfl⟩ := h
      exact R_i rfl dX10_isCell_43 rfl
    · have h := h.2 q
      refine Ev_iconst 1 dX10_isCell_38 (by decide) ?_
      refine Ev_goto 43 dX10_isCell_39 (by decide) ?_
      obtain ⟨rfl, rfl⟩ := h
      exact R_i rfl dX10_isCell_43 rfl
set_option maxHeartbeats 4000000 in
set_option maxRecDepth 100000 in
theorem X10_isDigit_ok {d : Nat} {x0 : Int32} {μ μ' : Mem} {x : Int32} (h : ((x0 < 48 → (x = 0 ∧ μ' = μ)) ∧ (¬ x0 < 48 → ((57 < x0 → (x = 0 ∧ μ' = μ)) ∧ (¬ 57 < x0 → (x = 1 ∧ μ' = μ)))))) : X10_isDigit d x0 μ x μ' := by
  refine Me_of [some (vi x0)] rfl (Nat.le_of_ble_eq_true rfl) (by decide) ?_
  refine Ev_iload_n dX10_isDigit_0 rfl ?_
  refine Ev_bipush 48 dX10_isDigit_1 (by decide) ?_
  refine Ev_icmp_lt 16 dX10_isDigit_3 (by decide) (fun q => ?_) (fun q => ?_)
  · have h := h.1 q
    refine Ev_iconst 0 dX10_isDigit_16 (by decide) ?_
    obtain ⟨rfl, rfl⟩ := h
    exact R_i rfl dX10_isDigit_17 rfl
  · have h := h.2 q
    refine Ev_iload_n dX10_isDigit_6 rfl ?_
    refine Ev_bipush 57 dX10_isDigit_7 (by decide) ?_
    refine Ev_icmp_gt 16 dX10_isDigit_9 (by decide) (fun q => ?_) (fun q => ?_)
    · have h := h.1 q
      refine Ev_iconst 0 dX10_isDigit_16 (by decide) ?_
      obtain ⟨rfl, rfl⟩ := h
      exact R_i rfl dX10_isDigit_17 rfl
    · have h := h.2 q
      refine Ev_iconst 1 dX10_isDigit_12 (by decide) ?_
      refine Ev_goto 17 dX10_isDigit_13 (by decide) ?_
      obtain ⟨rfl, rfl⟩ := h
      exact R_i rfl dX10_isDigit_17 rfl
set_option maxHeartbeats 4000000 in
set_option maxRecDepth 100000 in
theorem X10_isField_ok {d : Nat} {x1 : Int32} {μ μ' : Mem} {x : Int32} (h : vp_in (μ.1 0 18) 2 ∧ (∃ (y3 : Int32) (μ1 : Mem), X10_in d x1 0 ((μ.1 12 ((μ.1 0 18).toNatClampNeg)) - 1) μ y3 μ1 ∧ (isB y3 ∧ x = y3 ∧ μ' = μ1))) : X10_isField (d + 1) x1 μ x μ' := by
  refine Me_of [some (vr 10 0 0), some (vi x1)] rfl (Nat.le_of_ble_eq_true rfl) (by decide) ?_
  refine Ev_iload_n dX10_isField_0 rfl ?_
  refine Ev_iconst 0 dX10_isField_1 (by decide) ?_
  refine Ev_aload_n dX10_isField_2 rfl ?_
  refine Ev_getF 11 2 12 flX10_52 rfl dX10_isField_3 ?_
  refine Ev_aload_n dX10_isField_6 rfl ?_
  refine Ev_getI flX10_239 rfl dX10_isField_7 ?_
  obtain ⟨g, h⟩ := h
  refine Ev_iald g dX10_isField_10 ?_
  refine Ev_iconst 1 dX10_isField_11 (by decide) ?_
  refine Ev_isub dX10_isField_12 ?_
  obtain ⟨y3, μ1, hM2, h⟩ := h
  refine Ev_callS [_, _, _] mlX10_323 rfl rfl (Nat.le_of_ble_eq_true rfl) dX10_isField_13 hM2 ?_
  obtain ⟨g, rfl, rfl⟩ := h
  exact R_i rfl dX10_isField_16 (isB_nar g)
set_option maxHeartbeats 4000000 in
set_option maxRecDepth 100000 in
theorem X10_isFlooded_ok {d : Nat} {x1 : Int32} {μ μ' : Mem} {x : Int32} (h : (∃ (y3 : Int32) (μ1 : Mem), X10_fieldAt d x1 μ y3 μ1 ∧ ((y3 < 0 → (x = 0 ∧ μ' = μ1)) ∧ (¬ y3 < 0 → vp_in x1 92 ∧ (∃ (y6 : Int32) (μ4 : Mem), X10_drownOf d x1 μ1 y6 μ4 ∧ (((μ1.1 34 x1.toNatClampNeg) ≤ y6 → (x = 0 ∧ μ' = μ4)) ∧ (¬ (μ1.1 34 x1.toNatClampNeg) ≤ y6 → (x = 1 ∧ μ' = μ4)))))))) : X10_isFlooded (d + 1) x1 μ x μ' := by
  refine Me_of [some (vr 10 0 0), some (vi x1)] rfl (Nat.le_of_ble_eq_true rfl) (by decide) ?_
  refine Ev_aload_n dX10_isFlooded_0 rfl ?_
  refine Ev_iload_n dX10_isFlooded_1 rfl ?_
  obtain ⟨y3, μ1, hM2, h⟩ := h
  refine Ev_callV [_] mlX10_347 rfl rfl (Nat.le_of_ble_eq_true rfl) dX10_isFlooded_2 hM2 ?_
  refine Ev_if_lt 26 dX10_isFlooded_5 (by decide) (fun q => ?_) (fun q => ?_)
  · have h := h.1 q
    refine Ev_iconst 0 dX10_isFlooded_26 (by decide) ?_
    obtain ⟨rfl, rfl⟩ := h
    exact R_i rfl dX10_isFlooded_27 rfl
  · have h := h.2 q
    refine Ev_aload_n dX10_isFlooded_8 rfl ?_
    refine Ev_getF 11 92 34 flX10_119 rfl dX10_isFlooded_9 ?_
    refine Ev_iload_n dX10_isFlooded_12 rfl ?_
    obtain ⟨g, h⟩ := h
    refine Ev_iald g dX10_isFlooded_13 ?_
    refine Ev_aload_n dX10_isFlooded_14 rfl ?_
    refine Ev_iload_n dX10_isFlooded_15 rfl ?_
    obtain ⟨y6, μ4, hM5, h⟩ := h
    refine Ev_callV [_] mlX10_353 rfl rfl (Nat.le_of_ble_eq_true rfl) dX10_isFlooded_16 hM5 ?_
    refine Ev_icmp_le 26 dX10_isFlooded_19 (by decide) (fun q => ?_) (fun q => ?_)
    · have h := h.1 q
      refine Ev_iconst 0 dX10_isFlooded_26 (by decide) ?_
      obtain ⟨rfl, rfl⟩ := h
      exact R_i rfl dX10_isFlooded_27 rfl
    · have h := h.2 q
      refine Ev_iconst 1 dX10_isFlooded_22 (by decide) ?_
      refine Ev_goto 27 dX10_isFlooded_23 (by decide) ?_
      obtain ⟨rfl, rfl⟩ := h
      exact R_i rfl dX10_isFlooded_27 rfl
set_option maxHeartbeats 4000000 in
set_option maxRecDepth 100000 in
theorem X10_isFree_ok {d : Nat} {x1 : Int32} {x2 : Int32} {μ μ' : Mem} {x : Int32} (h : vp_in x1 4 ∧ X10_isFree_at22 d x1 x2 (((1 <<< ((μ.1 36 x1.toNatClampNeg) &&& 31)) - 1) <<< ((x2 - x2 / 8 * 8) &&& 31)) (x2 / 8) μ x μ') : X10_isFree d x1 x2 μ x μ' := by
  refine Me_of [some (vr 10 0 0), some (vi x1), some (vi x2), none, none] rfl (Nat.le_of_ble_eq_true rfl) (by decide) ?_
  refine Ev_iconst 1 dX10_isFree_0 (by decide) ?_
  refine Ev_aload_n dX10_isFree_1 rfl ?_
  refine Ev_getF 11 4 36 flX10_125 rfl dX10_isFree_2 ?_
  refine Ev_iload_n dX10_isFree_5 rfl ?_
  obtain ⟨g, h⟩ := h
  refine Ev_iald g dX10_isFree_6 ?_
  refine Ev_ishl dX10_isFree_7 ?_
  refine Ev_iconst 1 dX10_isFree_8 (by decide) ?_
  refine Ev_isub dX10_isFree_9 ?_
  refine Ev_iload_n dX10_isFree_10 rfl ?_
  refine Ev_bipush 8 dX10_isFree_11 (by decide) ?_
  refine Ev_irem dX10_isFree_13 (by decide) ?_
  refine Ev_ishl dX10_isFree_14 ?_
  refine Ev_istore_n dX10_isFree_15 (Nat.le_of_ble_eq_true rfl) (okp_of rfl) ?_
  refine Ev_iload_n dX10_isFree_16 rfl ?_
  refine Ev_bipush 8 dX10_isFree_17 (by decide) ?_
  refine Ev_idiv dX10_isFree_19 (by decide) ?_
  refine Ev_istore dX10_isFree_20 (Nat.le_of_ble_eq_true rfl) (okp_of rfl) ?_
  exact h
set_option maxHeartbeats 4000000 in
set_option maxRecDepth 100000 in
theorem X10_isFree_at22_ok {d : Nat} {x1 : Int32} {x2 : Int32} {x3 : Int32} {x4 : Int32} {μ μ' : Mem} {x : Int32} (h : vp_in x1 4 ∧ ((((x2 / 8) + (μ.1 37 x1.toNatClampNeg)) ≤ x4 → (x = 1 ∧ μ' = μ)) ∧ (¬ ((x2 / 8) + (μ.1 37 x1.toNatClampNeg)) ≤ x4 → vp_in x4 24 ∧ ((((μ.1 39 x4.toNatClampNeg) &&& x3) = 0 → X10_isFree_at22 d x1 x2 x3 (x4 + 1) μ x μ') ∧ (¬ ((μ.1 39 x4.toNatClampNeg) &&& x3) = 0 → (x = 0 ∧ μ' = μ)))))) : X10_isFree_at22 d x1 x2 x3 x4 μ x μ' := by
  refine Ev_iload dX10_isFree_22 rfl ?_
  refine Ev_iload_n dX10_isFree_24 rfl ?_
  refine Ev_bipush 8 dX10_isFree_25 (by decide) ?_
  refine Ev_idiv dX10_isFree_27 (by decide) ?_
  refine Ev_aload_n dX10_isFree_28 rfl ?_
  refine Ev_getF 11 4 37 flX10_128 rfl dX10_isFree_29 ?_
  refine Ev_iload_n dX10_isFree_32 rfl ?_
  obtain ⟨g, h⟩ := h
  refine Ev_iald g dX10_isFree_33 ?_
  refine Ev_iadd dX10_isFree_34 ?_
  refine Ev_icmp_ge 58 dX10_isFree_35 (by decide) (fun q => ?_) (fun q => ?_)
  · have h := h.1 q
    refine Ev_iconst 1 dX10_isFree_58 (by decide) ?_
    obtain ⟨rfl, rfl⟩ := h
    exact R_i rfl dX10_isFree_59 rfl
  · have h := h.2 q
    refine Ev_aload_n dX10_isFree_38 rfl ?_
    refine Ev_getF 11 24 39 flX10_134 rfl dX10_isFree_39 ?_
    refine Ev_iload dX10_isFree_42 rfl ?_
    obtain ⟨g, h⟩ := h
    refine Ev_iald g dX10_isFree_44 ?_
    refine Ev_iload_n dX10_isFree_45 rfl ?_
    refine Ev_iand dX10_isFree_46 ?_
    refine Ev_if_eq 52 dX10_isFree_47 (by decide) (fun q => ?_) (fun q => ?_)
    · have h := h.1 q
      refine Ev_iinc (x4 + 1) dX10_isFree_52 rfl rfl (okp_of rfl) ?_
      refine Ev_goto 22 dX10_isFree_55 (by decide) ?_
      exact h
    · have h := h.2 q
      refine Ev_iconst 0 dX10_isFree_50 (by decide) ?_
      obtain ⟨rfl, rfl⟩ := h
      exact R_i rfl dX10_isFree_51 rfl
set_option maxHeartbeats 4000000 in
set_option maxRecDepth 100000 in
theorem X10_isLacking_ok {d : Nat} {x1 : Int32} {μ μ' : Mem} {x : Int32} (h : (∃ (y3 : Int32) (μ1 : Mem), X10_fieldAt d x1 μ y3 μ1 ∧ ((y3 < 0 → (x = 0 ∧ μ' = μ1)) ∧ (¬ y3 < 0 → vp_in x1 92 ∧ (∃ (y6 : Int32) (μ4 : Mem), X10_needOf d x1 μ1 y6 μ4 ∧ ((y6 ≤ (μ1.1 34 x1.toNatClampNeg) → (x = 0 ∧ μ' = μ4)) ∧ (¬ y6 ≤ (μ1.1 34 x1.toNatClampNeg) → (x = 1 ∧ μ' = μ4)))))))) : X10_isLacking (d + 1) x1 μ x μ' := by
  refine Me_of [some (vr 10 0 0), some (vi x1)] rfl (Nat.le_of_ble_eq_true rfl) (by decide) ?_
  refine Ev_aload_n dX10_isLacking_0 rfl ?_
  refine Ev_iload_n dX10_isLacking_1 rfl ?_
  obtain ⟨y3, μ1, hM2, h⟩ := h
  refine Ev_callV [_] mlX10_347 rfl rfl (Nat.le_of_ble_eq_true rfl) dX10_isLacking_2 hM2 ?_
  refine Ev_if_lt 26 dX10_isLacking_5 (by decide) (fun q => ?_) (fun q => ?_)
  · have h := h.1 q
    refine Ev_iconst 0 dX10_isLacking_26 (by decide) ?_
    obtain ⟨rfl, rfl⟩ := h
    exact R_i rfl dX10_isLacking_27 rfl
  · have h := h.2 q
    refine Ev_aload_n dX10_isLacking_8 rfl ?_
    refine Ev_getF 11 92 34 flX10_119 rfl dX10_isLacking_9 ?_
    refine Ev_iload_n dX10_isLacking_12 rfl ?_
    obtain ⟨g, h⟩ := h
    refine Ev_iald g dX10_isLacking_13 ?_
    refine Ev_aload_n dX10_isLacking_14 rfl ?_
    refine Ev_iload_n dX10_isLacking_15 rfl ?_
    obtain ⟨y6, μ4, hM5, h⟩ := h
    refine Ev_callV [_] mlX10_350 rfl rfl (Nat.le_of_ble_eq_true rfl) dX10_isLacking_16 hM5 ?_
    refine Ev_icmp_ge 26 dX10_isLacking_19 (by decide) (fun q => ?_) (fun q => ?_)
    · have h := h.1 q
      refine Ev_iconst 0 dX10_isLacking_26 (by decide) ?_
      obtain ⟨rfl, rfl⟩ := h
      exact R_i rfl dX10_isLacking_27 rfl
    · have h := h.2 q
      refine Ev_iconst 1 dX10_isLacking_22 (by decide) ?_
      refine Ev_goto 27 dX10_isLacking_23 (by decide) ?_
      obtain ⟨rfl, rfl⟩ := h
      exact R_i rfl dX10_isLacking_27 rfl
set_option maxHeartbeats 4000000 in
set_option maxRecDepth 100000 in
theorem X10_isLand_ok {d : Nat} {x1 : Int32} {μ μ' : Mem} {x : Int32} (h : (∃ (y3 : Int32) (μ1 : Mem), X10_isCell d (x1 - x1 / 8 * 8) (x1 / 8) μ y3 μ1 ∧ (isB y3 ∧ x = y3 ∧ μ' = μ1))) : X10_isLand (d + 1) x1 μ x μ' := by
  refine Me_of [some (vr 10 0 0), some (vi x1)] rfl (Nat.le_of_ble_eq_true rfl) (by decide) ?_
  refine Ev_aload_n dX10_isLand_0 rfl ?_
  refine Ev_iload_n dX10_isLand_1 rfl ?_
  refine Ev_bipush 8 dX10_isLand_2 (by decide) ?_
  refine Ev_irem dX10_isLand_4 (by decide) ?_
  refine Ev_iload_n dX10_isLand_5 rfl ?_
  refine Ev_bipush 8 dX10_isLand_6 (by decide) ?_
  refine Ev_idiv dX10_isLand_8 (by decide) ?_
  obtain ⟨y3, μ1, hM2, h⟩ := h
  refine Ev_callV [_, _] mlX10_343 rfl rfl (Nat.le_of_ble_eq_true rfl) dX10_isLand_9 hM2 ?_
  obtain ⟨g, rfl, rfl⟩ := h
  exact R_i rfl dX10_isLand_12 (isB_nar g)
set_option maxHeartbeats 4000000 in
set_option maxRecDepth 100000 in
theorem X10_isLetter_ok {d : Nat} {x0 : Int32} {μ μ' : Mem} {x : Int32} (h : ((x0 < 97 → (x = 0 ∧ μ' = μ)) ∧ (¬ x0 < 97 → ((122 < x0 → (x = 0 ∧ μ' = μ)) ∧ (¬ 122 < x0 → (x = 1 ∧ μ' = μ)))))) : X10_isLetter d x0 μ x μ' := by
  refine Me_of [some (vi x0)] rfl (Nat.le_of_ble_eq_true rfl) (by decide) ?_
  refine Ev_iload_n dX10_isLetter_0 rfl ?_
  refine Ev_bipush 97 dX10_isLetter_1 (by decide) ?_
  refine Ev_icmp_lt 16 dX10_isLetter_3 (by decide) (fun q => ?_) (fun q => ?_)
  · have h := h.1 q
    refine Ev_iconst 0 dX10_isLetter_16 (by decide) ?_
    obtain ⟨rfl, rfl⟩ := h
    exact R_i rfl dX10_isLetter_17 rfl
  · have h := h.2 q
    refine Ev_iload_n dX10_isLetter_6 rfl ?_
    refine Ev_bipush 122 dX10_isLetter_7 (by decide) ?_
    refine Ev_icmp_gt 16 dX10_isLetter_9 (by decide) (fun q => ?_) (fun q => ?_)
    · have h := h.1 q
      refine Ev_iconst 0 dX10_isLetter_16 (by decide) ?_
      obtain ⟨rfl, rfl⟩ := h
      exact R_i rfl dX10_isLetter_17 rfl
    · have h := h.2 q
      refine Ev_iconst 1 dX10_isLetter_12 (by decide) ?_
      refine Ev_goto 17 dX10_isLetter_13 (by decide) ?_
      obtain ⟨rfl, rfl⟩ := h
      exact R_i rfl dX10_isLetter_17 rfl
set_option maxHeartbeats 4000000 in
set_option maxRecDepth 100000 in
theorem X10_isLong_ok {d : Nat} {x0 : Int32} {μ μ' : Mem} {x : Int32} (h : (∃ (y3 : Int32) (μ1 : Mem), X10_in d x0 0 60 μ y3 μ1 ∧ (isB y3 ∧ x = y3 ∧ μ' = μ1))) : X10_isLong (d + 1) x0 μ x μ' := by
  refine Me_of [some (vi x0)] rfl (Nat.le_of_ble_eq_true rfl) (by decide) ?_
  refine Ev_iload_n dX10_isLong_0 rfl ?_
  refine Ev_iconst 0 dX10_isLong_1 (by decide) ?_
  refine Ev_bipush 60 dX10_isLong_2 (by decide) ?_
  obtain ⟨y3, μ1, hM2, h⟩ := h
  refine Ev_callS [_, _, _] mlX10_323 rfl rfl (Nat.le_of_ble_eq_true rfl) dX10_isLong_4 hM2 ?_
  obtain ⟨g, rfl, rfl⟩ := h
  exact R_i rfl dX10_isLong_7 (isB_nar g)
set_option maxHeartbeats 4000000 in
set_option maxRecDepth 100000 in
theorem X10_isLoom_ok {d : Nat} {x1 : Int32} {μ μ' : Mem} {x : Int32} (h : vp_in (μ.1 0 18) 2 ∧ (∃ (y3 : Int32) (μ1 : Mem), X10_in d x1 0 ((μ.1 15 ((μ.1 0 18).toNatClampNeg)) - 1) μ y3 μ1 ∧ (isB y3 ∧ x = y3 ∧ μ' = μ1))) : X10_isLoom (d + 1) x1 μ x μ' := by
  refine Me_of [some (vr 10 0 0), some (vi x1)] rfl (Nat.le_of_ble_eq_true rfl) (by decide) ?_
  refine Ev_iload_n dX10_isLoom_0 rfl ?_
  refine Ev_iconst 0 dX10_isLoom_1 (by decide) ?_
  refine Ev_aload_n dX10_isLoom_2 rfl ?_
  refine Ev_getF 11 2 15 flX10_61 rfl dX10_isLoom_3 ?_
  refine Ev_aload_n dX10_isLoom_6 rfl ?_
  refine Ev_getI flX10_239 rfl dX10_isLoom_7 ?_
  obtain ⟨g, h⟩ := h
  refine Ev_iald g dX10_isLoom_10 ?_
  refine Ev_iconst 1 dX10_isLoom_11 (by decide) ?_
  refine Ev_isub dX10_isLoom_12 ?_
  obtain ⟨y3, μ1, hM2, h⟩ := h
  refine Ev_callS [_, _, _] mlX10_323 rfl rfl (Nat.le_of_ble_eq_true rfl) dX10_isLoom_13 hM2 ?_
  obtain ⟨g, rfl, rfl⟩ := h
  exact R_i rfl dX10_isLoom_16 (isB_nar g)
set_option maxHeartbeats 4000000 in
set_option maxRecDepth 100000 in
theorem X10_isPiece_ok {d : Nat} {x1 : Int32} {x2 : Int32} {x3 : Int32} {μ μ' : Mem} {x : Int32} (h : (∃ (y3 : Int32) (μ1 : Mem), X10_isLoom d x1 μ y3 μ1 ∧ ((y3 = 0 → (x = 0 ∧ μ' = μ1)) ∧ (¬ y3 = 0 → vp_in ((4 * (μ1.1 0 18)) + x1) 8 ∧ (∃ (y6 : Int32) (μ4 : Mem), X10_in d x2 1 (μ1.1 16 (((4 * (μ1.1 0 18)) + x1).toNatClampNeg)) μ1 y6 μ4 ∧ ((y6 = 0 → (x = 0 ∧ μ' = μ4)) ∧ (¬ y6 = 0 → (∃ (y9 : Int32) (μ7 : Mem), X10_in d x3 1 6 μ4 y9 μ7 ∧ ((y9 = 0 → (x = 0 ∧ μ' = μ7)) ∧ (¬ y9 = 0 → (x = 1 ∧ μ' = μ7))))))))))) : X10_isPiece (d + 1) x1 x2 x3 μ x μ' := by
  refine Me_of [some (vr 10 0 0), some (vi x1), some (vi x2), some (vi x3)] rfl (Nat.le_of_ble_eq_true rfl) (by decide) ?_
  refine Ev_aload_n dX10_isPiece_0 rfl ?_
  refine Ev_iload_n dX10_isPiece_1 rfl ?_
  obtain ⟨y3, μ1, hM2, h⟩ := h
  refine Ev_callV [_] mlX10_393 rfl rfl (Nat.le_of_ble_eq_true rfl) dX10_isPiece_2 hM2 ?_
  refine Ev_if_eq 43 dX10_isPiece_5 (by decide) (fun q => ?_) (fun q => ?_)
  · have h := h.1 q
    refine Ev_iconst 0 dX10_isPiece_43 (by decide) ?_
    obtain ⟨rfl, rfl⟩ := h
    exact R_i rfl dX10_isPiece_44 rfl
  · have h := h.2 q
    refine Ev_iload_n dX10_isPiece_8 rfl ?_
    refine Ev_iconst 1 dX10_isPiece_9 (by decide) ?_
    refine Ev_aload_n dX10_isPiece_10 rfl ?_
    refine Ev_getF 11 8 16 flX10_64 rfl dX10_isPiece_11 ?_
    refine Ev_iconst 4 dX10_isPiece_14 (by decide) ?_
    refine Ev_aload_n dX10_isPiece_15 rfl ?_
    refine Ev_getI flX10_239 rfl dX10_isPiece_16 ?_
    refine Ev_imul dX10_isPiece_19 ?_
    refine Ev_iload_n dX10_isPiece_20 rfl ?_
    refine Ev_iadd dX10_isPiece_21 ?_
    obtain ⟨g, h⟩ := h
    refine Ev_iald g dX10_isPiece_22 ?_
    obtain ⟨y6, μ4, hM5, h⟩ := h
    refine Ev_callS [_, _, _] mlX10_323 rfl rfl (Nat.le_of_ble_eq_true rfl) dX10_isPiece_23 hM5 ?_
    refine Ev_if_eq 43 dX10_isPiece_26 (by decide) (fun q => ?_) (fun q => ?_)
    · have h := h.1 q
      refine Ev_iconst 0 dX10_isPiece_43 (by decide) ?_
      obtain ⟨rfl, rfl⟩ := h
      exact R_i rfl dX10_isPiece_44 rfl
    · have h := h.2 q
      refine Ev_iload_n dX10_isPiece_29 rfl ?_
      refine Ev_iconst 1 dX10_isPiece_30 (by decide) ?_
      refine Ev_bipush 6 dX10_isPiece_31 (by decide) ?_
      obtain ⟨y9, μ7, hM8, h⟩ := h
      refine Ev_callS [_, _, _] mlX10_323 rfl rfl (Nat.le_of_ble_eq_true rfl) dX10_isPiece_33 hM8 ?_
      refine Ev_if_eq 43 dX10_isPiece_36 (by decide) (fun q => ?_) (fun q => ?_)
      · have h := h.1 q
        refine Ev_iconst 0 dX10_isPiece_43 (by decide) ?_
        obtain ⟨rfl, rfl⟩ := h
        exact R_i rfl dX10_isPiece_44 rfl
      · have h := h.2 q
        refine Ev_iconst 1 dX10_isPiece_39 (by decide) ?_
        refine Ev_goto 44 dX10_isPiece_40 (by decide) ?_
        obtain ⟨rfl, rfl⟩ := h
        exact R_i rfl dX10_isPiece_44 rfl
set_option maxHeartbeats 4000000 in
set_option maxRecDepth 100000 in
theorem X10_isRound_ok {d : Nat} {x1 : Int32} {x2 : Int32} {μ μ' : Mem} {x : Int32} (h : X10_isRound_at2 d x1 x2 0 μ x μ') : X10_isRound (d + 1) x1 x2 μ x μ' := by
  refine Me_of [some (vr 10 0 0), some (vi x1), some (vi x2), none, none] rfl (Nat.le_of_ble_eq_true rfl) (by decide) ?_
  refine Ev_iconst 0 dX10_isRound_0 (by decide) ?_
  refine Ev_istore_n dX10_isRound_1 (Nat.le_of_ble_eq_true rfl) (okp_of rfl) ?_
  exact h
set_option maxHeartbeats 4000000 in
set_option maxRecDepth 100000 in
theorem X10_isRound_at2_ok {d : Nat} {x1 : Int32} {x2 : Int32} {x3 : Int32} {μ μ' : Mem} {x : Int32} (h : ((48 ≤ x3 → (x = 1 ∧ μ' = μ)) ∧ (¬ 48 ≤ x3 → X10_isRound_at11 d x1 x2 x3 0 μ x μ'))) : X10_isRound_at2 d x1 x2 x3 μ x μ' := by
  refine Ev_iload_n dX10_isRound_2 rfl ?_
  refine Ev_bipush 48 dX10_isRound_3 (by decide) ?_
  refine Ev_icmp_ge 84 dX10_isRound_5 (by decide) (fun q => ?_) (fun q => ?_)
  · have h := h.1 q
    refine Ev_iconst 1 dX10_isRound_84 (by decide) ?_
    obtain ⟨rfl, rfl⟩ := h
    exact R_i rfl dX10_isRound_85 rfl
  · have h := h.2 q
    refine Ev_iconst 0 dX10_isRound_8 (by decide) ?_
    refine Ev_istore dX10_isRound_9 (Nat.le_of_ble_eq_true rfl) (okp_of rfl) ?_
    exact h
set_option maxHeartbeats 4000000 in
set_option maxRecDepth 100000 in
theorem X10_isRound_at11_ok {d : Nat} {x1 : Int32} {x2 : Int32} {x3 : Int32} {x4 : Int32} {μ μ' : Mem} {x : Int32} (h : vp_in ((4 * (μ.1 0 18)) + x1) 8 ∧ (((μ.1 16 (((4 * (μ.1 0 18)) + x1).toNatClampNeg)) ≤ x4 → X10_isRound_at2 d x1 x2 (x3 + 1) μ x μ') ∧ (¬ (μ.1 16 (((4 * (μ.1 0 18)) + x1).toNatClampNeg)) ≤ x4 → vp_in (48 + x1) 92 ∧ (∃ (y3 : Int32) (μ1 : Mem), X10_threadOf d x1 x4 ((μ.1 33 ((48 + x1).toNatClampNeg)) + x3) μ y3 μ1 ∧ vp_in (48 + x1) 92 ∧ (∃ (y6 : Int32) (μ4 : Mem), X10_threadOf d x1 x4 (((μ1.1 33 ((48 + x1).toNatClampNeg)) + x3) + x2) μ1 y6 μ4 ∧ ((y3 = y6 → X10_isRound_at11 d x1 x2 x3 (x4 + 1) μ4 x μ') ∧ (¬ y3 = y6 → (x = 0 ∧ μ' = μ4)))))))) : X10_isRound_at11 d x1 x2 x3 x4 μ x μ' := by
  refine Ev_iload dX10_isRound_11 rfl ?_
  refine Ev_aload_n dX10_isRound_13 rfl ?_
  refine Ev_getF 11 8 16 flX10_64 rfl dX10_isRound_14 ?_
  refine Ev_iconst 4 dX10_isRound_17 (by decide) ?_
  refine Ev_aload_n dX10_isRound_18 rfl ?_
  refine Ev_getI flX10_239 rfl dX10_isRound_19 ?_
  refine Ev_imul dX10_isRound_22 ?_
  refine Ev_iload_n dX10_isRound_23 rfl ?_
  refine Ev_iadd dX10_isRound_24 ?_
  obtain ⟨g, h⟩ := h
  refine Ev_iald g dX10_isRound_25 ?_
  refine Ev_icmp_ge 78 dX10_isRound_26 (by decide) (fun q => ?_) (fun q => ?_)
  · have h := h.1 q
    refine Ev_iinc (x3 + 1) dX10_isRound_78 rfl rfl (okp_of rfl) ?_
    refine Ev_goto 2 dX10_isRound_81 (by decide) ?_
    refine Ev_weak ?_ h
    exact And.intro rfl (And.intro rfl (And.intro rfl (And.intro rfl (And.intro trivial (trivial)))))
  · have h := h.2 q
    refine Ev_aload_n dX10_isRound_29 rfl ?_
    refine Ev_iload_n dX10_isRound_30 rfl ?_
    refine Ev_iload dX10_isRound_31 rfl ?_
    refine Ev_aload_n dX10_isRound_33 rfl ?_
    refine Ev_getF 11 92 33 flX10_116 rfl dX10_isRound_34 ?_
    refine Ev_bipush 48 dX10_isRound_37 (by decide) ?_
    refine Ev_iload_n dX10_isRound_39 rfl ?_
    refine Ev_iadd dX10_isRound_40 ?_
    obtain ⟨g, h⟩ := h
    refine Ev_iald g dX10_isRound_41 ?_
    refine Ev_iload_n dX10_isRound_42 rfl ?_
    refine Ev_iadd dX10_isRound_43 ?_
    obtain ⟨y3, μ1, hM2, h⟩ := h
    refine Ev_callV [_, _, _] mlX10_356 rfl rfl (Nat.le_of_ble_eq_true rfl) dX10_isRound_44 hM2 ?_
    refine Ev_aload_n dX10_isRound_47 rfl ?_
    refine Ev_iload_n dX10_isRound_48 rfl ?_
    refine Ev_iload dX10_isRound_49 rfl ?_
    refine Ev_aload_n dX10_isRound_51 rfl ?_
    refine Ev_getF 11 92 33 flX10_116 rfl dX10_isRound_52 ?_
    refine Ev_bipush 48 dX10_isRound_55 (by decide) ?_
    refine Ev_iload_n dX10_isRound_57 rfl ?_
    refine Ev_iadd dX10_isRound_58 ?_
    obtain ⟨g, h⟩ := h
    refine Ev_iald g dX10_isRound_59 ?_
    refine Ev_iload_n dX10_isRound_60 rfl ?_
    refine Ev_iadd dX10_isRound_61 ?_
    refine Ev_iload_n dX10_isRound_62 rfl ?_
    refine Ev_iadd dX10_isRound_63 ?_
    obtain ⟨y6, μ4, hM5, h⟩ := h
    refine Ev_callV [_, _, _] mlX10_356 rfl rfl (Nat.le_of_ble_eq_true rfl) dX10_isRound_64 hM5 ?_
    refine Ev_icmp_eq 72 dX10_isRound_67 (by decide) (fun q => ?_) (fun q => ?_)
    · have h := h.1 q
      refine Ev_iinc (x4 + 1) dX10_isRound_72 rfl rfl (okp_of rfl) ?_
      refine Ev_goto 11 dX10_isRound_75 (by decide) ?_
      exact h
    · have h := h.2 q
      refine Ev_iconst 0 dX10_isRound_70 (by decide) ?_
      obtain ⟨rfl, rfl⟩ := h
      exact R_i rfl dX10_isRound_71 rfl
set_option maxHeartbeats 4000000 in
set_option maxRecDepth 100000 in
theorem X10_isWay_ok {d : Nat} {x1 : Int32} {x2 : Int32} {x3 : Int32} {x4 : Int32} {μ μ' : Mem} {x : Int32} (h : (∃ (y3 : Int32) (μ1 : Mem), X10_isLoom d (x1 / 64) μ y3 μ1 ∧ ((y3 = 0 → (x = 0 ∧ μ' = μ1)) ∧ (¬ y3 = 0 → vp_in ((4 * (μ1.1 0 18)) + (x1 / 64)) 8 ∧ (((μ1.1 16 (((4 * (μ1.1 0 18)) + (x1 / 64)).toNatClampNeg)) < x2 → (x = 0 ∧ μ' = μ1)) ∧ (¬ (μ1.1 16 (((4 * (μ1.1 0 18)) + (x1 / 64)).toNatClampNeg)) < x2 → vp_in (μ1.1 0 18) 2 ∧ (((μ1.1 10 ((μ1.1 0 18).toNatClampNeg)) < ((x1 - x1 / 8 * 8) + x2) → (x = 0 ∧ μ' = μ1)) ∧ (¬ (μ1.1 10 ((μ1.1 0 18).toNatClampNeg)) < ((x1 - x1 / 8 * 8) + x2) → vp_in (μ1.1 0 18) 2 ∧ (((((x1 / 8) - (x1 / 8) / 8 * 8) + x3) ≤ (μ1.1 9 ((μ1.1 0 18).toNatClampNeg)) → X10_isWay_at75 d x1 x2 x3 x4 0 μ1 x μ') ∧ (¬ (((x1 / 8) - (x1 / 8) / 8 * 8) + x3) ≤ (μ1.1 9 ((μ1.1 0 18).toNatClampNeg)) → (x = 0 ∧ μ' = μ1))))))))))) : X10_isWay (d + 1) x1 x2 x3 x4 μ x μ' := by
  refine Me_of [some (vr 10 0 0), some (vi x1), some (vi x2), some (vi x3), some (vi x4), none] rfl (Nat.le_of_ble_eq_true rfl) (by decide) ?_
  refine Ev_aload_n dX10_isWay_0 rfl ?_
  refine Ev_iload_n dX10_isWay_1 rfl ?_
  refine Ev_bipush 64 dX10_isWay_2 (by decide) ?_
  refine Ev_idiv dX10_isWay_4 (by decide) ?_
  obtain ⟨y3, μ1, hM2, h⟩ := h
  refine Ev_callV [_] mlX10_393 rfl rfl (Nat.le_of_ble_eq_true rfl) dX10_isWay_5 hM2 ?_
  refine Ev_if_eq 70 dX10_isWay_8 (by decide) (fun q => ?_) (fun q => ?_)
  · have h := h.1 q
    refine Ev_iconst 0 dX10_isWay_70 (by decide) ?_
    obtain ⟨rfl, rfl⟩ := h
    exact R_i rfl dX10_isWay_71 rfl
  · have h := h.2 q
    refine Ev_aload_n dX10_isWay_11 rfl ?_
    refine Ev_getF 11 8 16 flX10_64 rfl dX10_isWay_12 ?_
    refine Ev_iconst 4 dX10_isWay_15 (by decide) ?_
    refine Ev_aload_n dX10_isWay_16 rfl ?_
    refine Ev_getI flX10_239 rfl dX10_isWay_17 ?_
    refine Ev_imul dX10_isWay_20 ?_
    refine Ev_iload_n dX10_isWay_21 rfl ?_
    refine Ev_bipush 64 dX10_isWay_22 (by decide) ?_
    refine Ev_idiv dX10_isWay_24 (by decide) ?_
    refine Ev_iadd dX10_isWay_25 ?_
    obtain ⟨g, h⟩ := h
    refine Ev_iald g dX10_isWay_26 ?_
    refine Ev_iload_n dX10_isWay_27 rfl ?_
    refine Ev_icmp_lt 70 dX10_isWay_28 (by decide) (fun q => ?_) (fun q => ?_)
    · have h := h.1 q
      refine Ev_iconst 0 dX10_isWay_70 (by decide) ?_
      obtain ⟨rfl, rfl⟩ := h
      exact R_i rfl dX10_isWay_71 rfl
    · have h := h.2 q
      refine Ev_iload_n dX10_isWay_31 rfl ?_
      refine Ev_bipush 8 dX10_isWay_32 (by decide) ?_
      refine Ev_irem dX10_isWay_34 (by decide) ?_
      refine Ev_iload_n dX10_isWay_35 rfl ?_
      refine Ev_iadd dX10_isWay_36 ?_
      refine Ev_aload_n dX10_isWay_37 rfl ?_
      refine Ev_getF 11 2 10 flX10_46 rfl dX10_isWay_38 ?_
      refine Ev_aload_n dX10_isWay_41 rfl ?_
      refine Ev_getI flX10_239 rfl dX10_isWay_42 ?_
      obtain ⟨g, h⟩ := h
      refine Ev_iald g dX10_isWay_45 ?_
      refine Ev_icmp_gt 70 dX10_isWay_46 (by decide) (fun q => ?_) (fun q => ?_)
      · have h := h.1 q
        refine Ev_iconst 0 dX10_isWay_70 (by decide) ?_
        obtain ⟨rfl, rfl⟩ := h
        exact R_i rfl dX10_isWay_71 rfl
      · have h := h.2 q
        refine Ev_iload_n dX10_isWay_49 rfl ?_
        refine Ev_bipush 8 dX10_isWay_50 (by decide) ?_
        refine Ev_idiv dX10_isWay_52 (by decide) ?_
        refine Ev_bipush 8 dX10_isWay_53 (by decide) ?_
        refine Ev_irem dX10_isWay_55 (by decide) ?_
        refine Ev_iload_n dX10_isWay_56 rfl ?_
        refine Ev_iadd dX10_isWay_57 ?_
        refine Ev_aload_n dX10_isWay_58 rfl ?_
        refine Ev_getF 11 2 9 flX10_43 rfl dX10_isWay_59 ?_
        refine Ev_aload_n dX10_isWay_62 rfl ?_
        refine Ev_getI flX10_239 rfl dX10_isWay_63 ?_
        obtain ⟨g, h⟩ := h
        refine Ev_iald g dX10_isWay_66 ?_
        refine Ev_icmp_le 72 dX10_isWay_67 (by decide) (fun q => ?_) (fun q => ?_)
        · have h := h.1 q
          refine Ev_iconst 0 dX10_isWay_72 (by decide) ?_
          refine Ev_istore dX10_isWay_73 (Nat.le_of_ble_eq_true rfl) (okp_of rfl) ?_
          exact h
        · have h := h.2 q
          refine Ev_iconst 0 dX10_isWay_70 (by decide) ?_
          obtain ⟨rfl, rfl⟩ := h
          exact R_i rfl dX10_isWay_71 rfl
