set_option maxHeartbeats 4000000 in
set_option maxRecDepth 100000 in
theorem X9_agree_ok {d : Nat} {x1 : Int32} {x2 : Int32} {μ μ' : Mem} {x : Int32} (h : (∃ (y3 : Int32) (μ1 : Mem), X3_hasLoom d (μ.2.2 0 4) x1 μ y3 μ1 ∧ ((y3 = 0 → (x = (-1) ∧ μ' = μ1)) ∧ (¬ y3 = 0 → (∃ (y6 : Int32) (μ4 : Mem), X3_hasLoom d (μ1.2.2 0 4) x2 μ1 y6 μ4 ∧ ((y6 = 0 → (x = (-1) ∧ μ' = μ4)) ∧ (¬ y6 = 0 → ((x1 ≠ x2 → vp_in x1 4 ∧ vp_in x2 4 ∧ (∃ (y9 : Int32) (μ7 : Mem), X5_part d 13 x1 1 μ4 y9 μ7 ∧ (∃ (y12 : Int32) (μ10 : Mem), X5_part d 13 x2 1 μ7 y12 μ10 ∧ X9_agree_at76 d x1 x2 (mn (μ4.1 (μ4.2.2 0 4 + 5) x1.toNatClampNeg) (μ4.1 (μ4.2.2 0 4 + 5) x2.toNatClampNeg)) y9 y12 0 μ10 x μ'))) ∧ (x1 = x2 → (x = (-1) ∧ μ' = μ4)))))))))) : X9_agree (d + 1) x1 x2 μ x μ' := by
  refine Me_of [some (vr 9 0 0), some (vi x1), some (vi x2), none, none, none, none, none] rfl (Nat.le_of_ble_eq_true rfl) (by decide) ?_
  refine Ev_aload_n dX9_agree_0 rfl ?_
  refine Ev_getP flX9_30 rfl dX9_agree_1 ?_
  refine Ev_iload_n dX9_agree_4 rfl ?_
  obtain ⟨y3, μ1, hM2, h⟩ := h
  refine Ev_callV [_] mlX9_145 rfl rfl (Nat.le_of_ble_eq_true rfl) dX9_agree_5 hM2 ?_
  refine Ev_if_eq 27 dX9_agree_8 (by decide) (fun q => ?_) (fun q => ?_)
  · have h := h.1 q
    refine Ev_iconst (-1) dX9_agree_27 (by decide) ?_
    obtain ⟨rfl, rfl⟩ := h
    exact R_i rfl dX9_agree_28 rfl
  · have h := h.2 q
    refine Ev_aload_n dX9_agree_11 rfl ?_
    refine Ev_getP flX9_30 rfl dX9_agree_12 ?_
    refine Ev_iload_n dX9_agree_15 rfl ?_
    obtain ⟨y6, μ4, hM5, h⟩ := h
    refine Ev_callV [_] mlX9_145 rfl rfl (Nat.le_of_ble_eq_true rfl) dX9_agree_16 hM5 ?_
    refine Ev_if_eq 27 dX9_agree_19 (by decide) (fun q => ?_) (fun q => ?_)
    · have h := h.1 q
      refine Ev_iconst (-1) dX9_agree_27 (by decide) ?_
      obtain ⟨rfl, rfl⟩ := h
      exact R_i rfl dX9_agree_28 rfl
    · have h := h.2 q
      refine Ev_iload_n dX9_agree_22 rfl ?_
      refine Ev_iload_n dX9_agree_23 rfl ?_
      refine Ev_icmp_ne 29 dX9_agree_24 (by decide) (fun q => ?_) (fun q => ?_)
      · have h := h.1 q
        refine Ev_aload_n dX9_agree_29 rfl ?_
        refine Ev_getP flX9_30 rfl dX9_agree_30 ?_
        refine Ev_getF 11 4 5 flX9_151 rfl dX9_agree_33 ?_
        refine Ev_iload_n dX9_agree_36 rfl ?_
        obtain ⟨g, h⟩ := h
        refine Ev_iald g dX9_agree_37 ?_
        refine Ev_aload_n dX9_agree_38 rfl ?_
        refine Ev_getP flX9_30 rfl dX9_agree_39 ?_
        refine Ev_getF 11 4 5 flX9_151 rfl dX9_agree_42 ?_
        refine Ev_iload_n dX9_agree_45 rfl ?_
        obtain ⟨g, h⟩ := h
        refine Ev_iald g dX9_agree_46 ?_
        refine Ev_mmin (ts4 234 rfl rfl) (ts3 47 rfl rfl) (ts1 17 rfl rfl) (ts3 48 rfl rfl) (Nat.le_of_ble_eq_true rfl) dX9_agree_47 ?_
        refine Ev_istore_n dX9_agree_50 (Nat.le_of_ble_eq_true rfl) (okp_of rfl) ?_
        refine Ev_aload_n dX9_agree_51 rfl ?_
        refine Ev_getF 5 0 13 flX9_46 rfl dX9_agree_52 ?_
        refine Ev_iload_n dX9_agree_55 rfl ?_
        refine Ev_iconst 1 dX9_agree_56 (by decide) ?_
        obtain ⟨y9, μ7, hM8, h⟩ := h
        refine Ev_callV [_, _] mlX9_148 rfl rfl (Nat.le_of_ble_eq_true rfl) dX9_agree_57 hM8 ?_
        refine Ev_istore dX9_agree_60 (Nat.le_of_ble_eq_true rfl) (okp_of rfl) ?_
        refine Ev_aload_n dX9_agree_62 rfl ?_
        refine Ev_getF 5 0 13 flX9_46 rfl dX9_agree_63 ?_
        refine Ev_iload_n dX9_agree_66 rfl ?_
        refine Ev_iconst 1 dX9_agree_67 (by decide) ?_
        obtain ⟨y12, μ10, hM11, h⟩ := h
        refine Ev_callV [_, _] mlX9_148 rfl rfl (Nat.le_of_ble_eq_true rfl) dX9_agree_68 hM11 ?_
        refine Ev_istore dX9_agree_71 (Nat.le_of_ble_eq_true rfl) (okp_of rfl) ?_
        refine Ev_iconst 0 dX9_agree_73 (by decide) ?_
        refine Ev_istore dX9_agree_74 (Nat.le_of_ble_eq_true rfl) (okp_of rfl) ?_
        exact h
      · have h := h.2 q
        refine Ev_iconst (-1) dX9_agree_27 (by decide) ?_
        obtain ⟨rfl, rfl⟩ := h
        exact R_i rfl dX9_agree_28 rfl
set_option maxHeartbeats 4000000 in
set_option maxRecDepth 100000 in
theorem X9_agree_at76_ok {d : Nat} {x1 : Int32} {x2 : Int32} {x3 : Int32} {x4 : Int32} {x5 : Int32} {x6 : Int32} {μ μ' : Mem} {x : Int32} (h : ((200 < x6 → (x = (-2) ∧ μ' = μ)) ∧ (¬ 200 < x6 → (∃ (y3 : Int32) (μ1 : Mem), X7_rowAt d x1 (x4 + x6) μ y3 μ1 ∧ (∃ (y6 : Int32) (μ4 : Mem), X7_rowAt d x2 (x5 + x6) μ1 y6 μ4 ∧ (∃ (y9 : Int32) (μ7 : Mem), X7_narrowed d (y3 ^^^ y6) x3 μ4 y9 μ7 ∧ ((y9 ≠ 0 → X9_agree_at76 d x1 x2 x3 x4 x5 (x6 + 1) μ7 x μ') ∧ (y9 = 0 → (x = x6 ∧ μ' = μ7))))))))) : X9_agree_at76 d x1 x2 x3 x4 x5 x6 μ x μ' := by
  refine Ev_iload dX9_agree_76 rfl ?_
  refine Ev_sipush 200 dX9_agree_78 (by decide) ?_
  refine Ev_icmp_gt 131 dX9_agree_81 (by decide) (fun q => ?_) (fun q => ?_)
  · have h := h.1 q
    refine Ev_bipush (-2) dX9_agree_131 (by decide) ?_
    obtain ⟨rfl, rfl⟩ := h
    exact R_i rfl dX9_agree_133 rfl
  · have h := h.2 q
    refine Ev_aload_n dX9_agree_84 rfl ?_
    refine Ev_getF 7 0 9 flX9_39 rfl dX9_agree_85 ?_
    refine Ev_iload_n dX9_agree_88 rfl ?_
    refine Ev_iload dX9_agree_89 rfl ?_
    refine Ev_iload dX9_agree_91 rfl ?_
    refine Ev_iadd dX9_agree_93 ?_
    obtain ⟨y3, μ1, hM2, h⟩ := h
    refine Ev_callV [_, _] mlX9_154 rfl rfl (Nat.le_of_ble_eq_true rfl) dX9_agree_94 hM2 ?_
    refine Ev_aload_n dX9_agree_97 rfl ?_
    refine Ev_getF 7 0 9 flX9_39 rfl dX9_agree_98 ?_
    refine Ev_iload_n dX9_agree_101 rfl ?_
    refine Ev_iload dX9_agree_102 rfl ?_
    refine Ev_iload dX9_agree_104 rfl ?_
    refine Ev_iadd dX9_agree_106 ?_
    obtain ⟨y6, μ4, hM5, h⟩ := h
    refine Ev_callV [_, _] mlX9_154 rfl rfl (Nat.le_of_ble_eq_true rfl) dX9_agree_107 hM5 ?_
    refine Ev_ixor dX9_agree_110 ?_
    refine Ev_istore dX9_agree_111 (Nat.le_of_ble_eq_true rfl) (okp_of rfl) ?_
    refine Ev_iload dX9_agree_113 rfl ?_
    refine Ev_iload_n dX9_agree_115 rfl ?_
    obtain ⟨y9, μ7, hM8, h⟩ := h
    refine Ev_callS [_, _] mlX9_261 rfl rfl (Nat.le_of_ble_eq_true rfl) dX9_agree_116 hM8 ?_
    refine Ev_if_ne 125 dX9_agree_119 (by decide) (fun q => ?_) (fun q => ?_)
    · have h := h.1 q
      refine Ev_iinc (x6 + 1) dX9_agree_125 rfl rfl (okp_of rfl) ?_
      refine Ev_goto 76 dX9_agree_128 (by decide) ?_
      refine Ev_weak ?_ h
      exact And.intro rfl (And.intro rfl (And.intro rfl (And.intro rfl (And.intro rfl (And.intro rfl (And.intro rfl (And.intro trivial (trivial))))))))
    · have h := h.2 q
      refine Ev_iload dX9_agree_122 rfl ?_
      obtain ⟨rfl, rfl⟩ := h
      exact R_i rfl dX9_agree_124 rfl
set_option maxHeartbeats 4000000 in
set_option maxRecDepth 100000 in
theorem X9_all_ok {d : Nat} {x1 : Int32} {x2 : Int32} {μ μ' : Mem} {x : Int32} (h : (∃ (y3 : Int32) (μ1 : Mem), X9_isAhead d x1 μ y3 μ1 ∧ ((y3 = 0 → (x = (-1) ∧ μ' = μ1)) ∧ (¬ y3 = 0 → ((x2 < 0 → (x = (-1) ∧ μ' = μ1)) ∧ (¬ x2 < 0 → ((x2 ≤ 2 → (∃ (y6 : Nat) (μ4 : Mem), X5_copy d 18 13 μ1 y6 μ4 ∧ (∃ (μ7 : Mem), X7_passDays d y6 x1 (μ4.1 (μ4.2.2 0 4) 6) μ4 μ7 ∧ ((x2 = 0 → (∃ (y11 : Int32) (μ9 : Mem), X5_sum d 6 21 μ7 y11 μ9 ∧ (∃ (y14 : Int32) (μ12 : Mem), X5_sum d 6 16 μ9 y14 μ12 ∧ (x = y11 - y14 ∧ μ' = μ12)))) ∧ (x2 = 1 → (∃ (y17 : Int32) (μ15 : Mem), X5_sum d 6 22 μ7 y17 μ15 ∧ (∃ (y20 : Int32) (μ18 : Mem), X5_sum d 6 17 μ15 y20 μ18 ∧ (x = y17 - y20 ∧ μ' = μ18)))) ∧ ((x2 ≠ 0 ∧ x2 ≠ 1) → (x = μ7.1 18 1 ∧ μ' = μ7)))))) ∧ (¬ x2 ≤ 2 → (x = (-1) ∧ μ' = μ1))))))))) : X9_all (d + 1) x1 x2 μ x μ' := by
  refine Me_of [some (vr 9 0 0), some (vi x1), some (vi x2)] rfl (Nat.le_of_ble_eq_true rfl) (by decide) ?_
  refine Ev_iload_n dX9_all_0 rfl ?_
  obtain ⟨y3, μ1, hM2, h⟩ := h
  refine Ev_callS [_] mlX9_298 rfl rfl (Nat.le_of_ble_eq_true rfl) dX9_all_1 hM2 ?_
  refine Ev_if_eq 16 dX9_all_4 (by decide) (fun q => ?_) (fun q => ?_)
  · have h := h.1 q
    refine Ev_iconst (-1) dX9_all_16 (by decide) ?_
    obtain ⟨rfl, rfl⟩ := h
    exact R_i rfl dX9_all_17 rfl
  · have h := h.2 q
    refine Ev_iload_n dX9_all_7 rfl ?_
    refine Ev_if_lt 16 dX9_all_8 (by decide) (fun q => ?_) (fun q => ?_)
    · have h := h.1 q
      refine Ev_iconst (-1) dX9_all_16 (by decide) ?_
      obtain ⟨rfl, rfl⟩ := h
      exact R_i rfl dX9_all_17 rfl
    · have h := h.2 q
      refine Ev_iload_n dX9_all_11 rfl ?_
      refine Ev_iconst 2 dX9_all_12 (by decide) ?_
      refine Ev_icmp_le 18 dX9_all_13 (by decide) (fun q => ?_) (fun q => ?_)
      · have h := h.1 q
        refine Ev_aload_n dX9_all_18 rfl ?_
        refine Ev_getF 7 0 9 flX9_39 rfl dX9_all_19 ?_
        refine Ev_aload_n dX9_all_22 rfl ?_
        refine Ev_getF 5 0 18 flX9_50 rfl dX9_all_23 ?_
        refine Ev_aload_n dX9_all_26 rfl ?_
        refine Ev_getF 5 0 13 flX9_46 rfl dX9_all_27 ?_
        obtain ⟨y6, μ4, hM5, h⟩ := h
        refine Ev_callV [_] mlX9_301 rfl rfl (Nat.le_of_ble_eq_true rfl) dX9_all_30 hM5 ?_
        refine Ev_iload_n dX9_all_33 rfl ?_
        refine Ev_aload_n dX9_all_34 rfl ?_
        refine Ev_getP flX9_30 rfl dX9_all_35 ?_
        refine Ev_getI flX9_228 rfl dX9_all_38 ?_
        obtain ⟨μ7, hM8, h⟩ := h
        refine Ev_callV [_, _, _] mlX9_231 rfl rfl (Nat.le_of_ble_eq_true rfl) dX9_all_41 hM8 ?_
        refine Ev_iload_n dX9_all_44 rfl ?_
        refine Ev_look2 72 94 116 dX9_all_45 (by decide) (by decide) (by decide) (by decide) (fun q => ?_) (fun q => ?_) (fun q => ?_)
        · have h := h.1 q
          refine Ev_aload_n dX9_all_72 rfl ?_
          refine Ev_getF 5 0 18 flX9_50 rfl dX9_all_73 ?_
          refine Ev_getF 11 6 3 flX9_135 rfl dX9_all_76 ?_
          obtain ⟨y11, μ9, hM10, h⟩ := h
          refine Ev_callS [_] mlX9_184 rfl rfl (Nat.le_of_ble_eq_true rfl) dX9_all_79 hM10 ?_
          refine Ev_aload_n dX9_all_82 rfl ?_
          refine Ev_getF 5 0 13 flX9_46 rfl dX9_all_83 ?_
          refine Ev_getF 11 6 3 flX9_135 rfl dX9_all_86 ?_
          obtain ⟨y14, μ12, hM13, h⟩ := h
          refine Ev_callS [_] mlX9_184 rfl rfl (Nat.le_of_ble_eq_true rfl) dX9_all_89 hM13 ?_
          refine Ev_isub dX9_all_92 ?_
          obtain ⟨rfl, rfl⟩ := h
          exact R_i rfl dX9_all_93 rfl
        · have h := h.2.1 q
          refine Ev_aload_n dX9_all_94 rfl ?_
          refine Ev_getF 5 0 18 flX9_50 rfl dX9_all_95 ?_
          refine Ev_getF 11 6 4 flX9_138 rfl dX9_all_98 ?_
          obtain ⟨y17, μ15, hM16, h⟩ := h
          refine Ev_callS [_] mlX9_184 rfl rfl (Nat.le_of_ble_eq_true rfl) dX9_all_101 hM16 ?_
          refine Ev_aload_n dX9_all_104 rfl ?_
          refine Ev_getF 5 0 13 flX9_46 rfl dX9_all_105 ?_
          refine Ev_getF 11 6 4 flX9_138 rfl dX9_all_108 ?_
          obtain ⟨y20, μ18, hM19, h⟩ := h
          refine Ev_callS [_] mlX9_184 rfl rfl (Nat.le_of_ble_eq_true rfl) dX9_all_111 hM19 ?_
          refine Ev_isub dX9_all_114 ?_
          obtain ⟨rfl, rfl⟩ := h
          exact R_i rfl dX9_all_115 rfl
        · have h := h.2.2 q
          refine Ev_aload_n dX9_all_116 rfl ?_
          refine Ev_getF 5 0 18 flX9_50 rfl dX9_all_117 ?_
          refine Ev_getI flX9_181 rfl dX9_all_120 ?_
          obtain ⟨rfl, rfl⟩ := h
          exact R_i rfl dX9_all_123 rfl
      · have h := h.2 q
        refine Ev_iconst (-1) dX9_all_16 (by decide) ?_
        obtain ⟨rfl, rfl⟩ := h
        exact R_i rfl dX9_all_17 rfl
set_option maxHeartbeats 4000000 in
set_option maxRecDepth 100000 in
theorem X9_back_ok {d : Nat} {x1 : Int32} {μ μ' : Mem} {x : Int32} (h : ((x1 < 0 → (x = (-1) ∧ μ' = μ)) ∧ (¬ x1 < 0 → ((x1 ≤ (μ.1 0 1) → (∀ μ1 : Mem, μ1 = sI μ 0 1 ((μ.1 0 1) - x1) → (x = μ1.1 0 1 ∧ μ' = μ1))) ∧ (¬ x1 ≤ (μ.1 0 1) → (x = (-1) ∧ μ' = μ)))))) : X9_back d x1 μ x μ' := by
  refine Me_of [some (vr 9 0 0), some (vi x1)] rfl (Nat.le_of_ble_eq_true rfl) (by decide) ?_
  refine Ev_iload_n dX9_back_0 rfl ?_
  refine Ev_if_lt 12 dX9_back_1 (by decide) (fun q => ?_) (fun q => ?_)
  · have h := h.1 q
    refine Ev_iconst (-1) dX9_back_12 (by decide) ?_
    obtain ⟨rfl, rfl⟩ := h
    exact R_i rfl dX9_back_13 rfl
  · have h := h.2 q
    refine Ev_iload_n dX9_back_4 rfl ?_
    refine Ev_aload_n dX9_back_5 rfl ?_
    refine Ev_getI flX9_13 rfl dX9_back_6 ?_
    refine Ev_icmp_le 14 dX9_back_9 (by decide) (fun q => ?_) (fun q => ?_)
    · have h := h.1 q
      refine Ev_aload_n dX9_back_14 rfl ?_
      refine Ev_dup dX9_back_15 (fun _ z => by cases z) ?_
      refine Ev_getI flX9_13 rfl dX9_back_16 ?_
      refine Ev_iload_n dX9_back_19 rfl ?_
      refine Ev_isub dX9_back_20 ?_
      refine Ev_putI .int flX9_13 fpX9_1 rfl rfl rfl dX9_back_21 ?_
      have h := h _ rfl
      refine Ev_aload_n dX9_back_24 rfl ?_
      refine Ev_getI flX9_13 rfl dX9_back_25 ?_
      obtain ⟨rfl, rfl⟩ := h
      exact R_i rfl dX9_back_28 rfl
    · have h := h.2 q
      refine Ev_iconst (-1) dX9_back_12 (by decide) ?_
      obtain ⟨rfl, rfl⟩ := h
      exact R_i rfl dX9_back_13 rfl
set_option maxHeartbeats 4000000 in
set_option maxRecDepth 100000 in
theorem X9_beginAnew_ok {d : Nat}  {μ μ' : Mem} (h : (∃ (μ1 : Mem), X7_begin d (μ.2.2 0 4) μ μ1 ∧ (∃ (μ3 : Mem), X5_begin d 13 (μ1.2.2 0 4) μ1 μ3 ∧ (∃ (μ5 : Mem), X2_clear d μ3 μ5 ∧ (∃ (μ7 : Mem), X8_clear d μ5 μ7 ∧ X9_beginAnew_at38 d 0 μ7 μ'))))) : X9_beginAnew (d + 1) μ μ' := by
  refine Me_of [some (vr 9 0 0), none] rfl (Nat.le_of_ble_eq_true rfl) (by decide) ?_
  refine Ev_aload_n dX9_beginAnew_0 rfl ?_
  refine Ev_getF 7 0 9 flX9_39 rfl dX9_beginAnew_1 ?_
  refine Ev_aload_n dX9_beginAnew_4 rfl ?_
  refine Ev_getP flX9_30 rfl dX9_beginAnew_5 ?_
  obtain ⟨μ1, hM2, h⟩ := h
  refine Ev_callV [_] mlX9_102 rfl rfl (Nat.le_of_ble_eq_true rfl) dX9_beginAnew_8 hM2 ?_
  refine Ev_aload_n dX9_beginAnew_11 rfl ?_
  refine Ev_getF 5 0 13 flX9_46 rfl dX9_beginAnew_12 ?_
  refine Ev_aload_n dX9_beginAnew_15 rfl ?_
  refine Ev_getP flX9_30 rfl dX9_beginAnew_16 ?_
  obtain ⟨μ3, hM4, h⟩ := h
  refine Ev_callV [_] mlX9_86 rfl rfl (Nat.le_of_ble_eq_true rfl) dX9_beginAnew_19 hM4 ?_
  refine Ev_aload_n dX9_beginAnew_22 rfl ?_
  refine Ev_getF 2 0 23 flX9_56 rfl dX9_beginAnew_23 ?_
  obtain ⟨μ5, hM6, h⟩ := h
  refine Ev_callV [] mlX9_103 rfl rfl (Nat.le_of_ble_eq_true rfl) dX9_beginAnew_26 hM6 ?_
  refine Ev_aload_n dX9_beginAnew_29 rfl ?_
  refine Ev_getF 8 0 192 flX9_71 rfl dX9_beginAnew_30 ?_
  obtain ⟨μ7, hM8, h⟩ := h
  refine Ev_callV [] mlX9_106 rfl rfl (Nat.le_of_ble_eq_true rfl) dX9_beginAnew_33 hM8 ?_
  refine Ev_iconst 0 dX9_beginAnew_36 (by decide) ?_
  refine Ev_istore_n dX9_beginAnew_37 (Nat.le_of_ble_eq_true rfl) (okp_of rfl) ?_
  exact h
set_option maxHeartbeats 4000000 in
set_option maxRecDepth 100000 in
theorem X9_beginAnew_at38_ok {d : Nat} {x1 : Int32} {μ μ' : Mem} (h : ((3 ≤ x1 → μ' = μ) ∧ (¬ 3 ≤ x1 → vp_in x1 3 ∧ (∀ μ1 : Mem, μ1 = sI μ 191 x1.toNatClampNeg (vp_nar .boolean 0) → X9_beginAnew_at38 d (x1 + 1) μ1 μ')))) : X9_beginAnew_at38 d x1 μ μ' := by
  refine Ev_iload_n dX9_beginAnew_38 rfl ?_
  refine Ev_iconst 3 dX9_beginAnew_39 (by decide) ?_
  refine Ev_icmp_ge 56 dX9_beginAnew_40 (by decide) (fun q => ?_) (fun q => ?_)
  · have h := h.1 q
    subst h
    exact R_v rfl dX9_beginAnew_56
  · have h := h.2 q
    refine Ev_aload_n dX9_beginAnew_43 rfl ?_
    refine Ev_getF 14 3 191 flX9_64 rfl dX9_beginAnew_44 ?_
    refine Ev_iload_n dX9_beginAnew_47 rfl ?_
    refine Ev_iconst 0 dX9_beginAnew_48 (by decide) ?_
    obtain ⟨g, h⟩ := h
    refine Ev_zast g dX9_beginAnew_49 ?_
    have h := h _ rfl
    refine Ev_iinc (x1 + 1) dX9_beginAnew_50 rfl rfl (okp_of rfl) ?_
    refine Ev_goto 38 dX9_beginAnew_53 (by decide) ?_
    exact h
set_option maxHeartbeats 4000000 in
set_option maxRecDepth 100000 in
theorem X9_bestLook_ok {d : Nat}  {μ μ' : Mem} {x : Int32} (h : X9_bestLook_at8 d 0 1000000 0 μ x μ') : X9_bestLook (d + 1) μ x μ' := by
  refine Me_of [some (vr 9 0 0), none, none, none, none, none] rfl (Nat.le_of_ble_eq_true rfl) (by decide) ?_
  refine Ev_iconst 0 dX9_bestLook_0 (by decide) ?_
  refine Ev_istore_n dX9_bestLook_1 (Nat.le_of_ble_eq_true rfl) (okp_of rfl) ?_
  refine Ev_ldcw 1000000 dX9_bestLook_2 (ts5 69 rfl rfl) ?_
  refine Ev_istore_n dX9_bestLook_5 (Nat.le_of_ble_eq_true rfl) (okp_of rfl) ?_
  refine Ev_iconst 0 dX9_bestLook_6 (by decide) ?_
  refine Ev_istore_n dX9_bestLook_7 (Nat.le_of_ble_eq_true rfl) (okp_of rfl) ?_
  exact h
set_option maxHeartbeats 4000000 in
set_option maxRecDepth 100000 in
theorem X9_bestLook_at8_ok {d : Nat} {x1 : Int32} {x2 : Int32} {x3 : Int32} {μ μ' : Mem} {x : Int32} (h : (((μ.1 (μ.2.2 0 4) 1) ≤ x3 → (x = x1 ∧ μ' = μ)) ∧ (¬ (μ.1 (μ.2.2 0 4) 1) ≤ x3 → X9_bestLook_at22 d x1 x2 x3 0 μ x μ'))) : X9_bestLook_at8 d x1 x2 x3 μ x μ' := by
  refine Ev_iload_n dX9_bestLook_8 rfl ?_
  refine Ev_aload_n dX9_bestLook_9 rfl ?_
  refine Ev_getP flX9_30 rfl dX9_bestLook_10 ?_
  refine Ev_getI flX9_169 rfl dX9_bestLook_13 ?_
  refine Ev_icmp_ge 75 dX9_bestLook_16 (by decide) (fun q => ?_) (fun q => ?_)
  · have h := h.1 q
    refine Ev_iload_n dX9_bestLook_75 rfl ?_
    obtain ⟨rfl, rfl⟩ := h
    exact R_i rfl dX9_bestLook_76 rfl
  · have h := h.2 q
    refine Ev_iconst 0 dX9_bestLook_19 (by decide) ?_
    refine Ev_istore dX9_bestLook_20 (Nat.le_of_ble_eq_true rfl) (okp_of rfl) ?_
    exact h
set_option maxHeartbeats 4000000 in
set_option maxRecDepth 100000 in
theorem X9_bestLook_at22_ok {d : Nat} {x1 : Int32} {x2 : Int32} {x3 : Int32} {x4 : Int32} {μ μ' : Mem} {x : Int32} (h : (((μ.1 (μ.2.2 0 4) 0) ≤ x4 → X9_bestLook_at8 d x1 x2 (x3 + 1) μ x μ') ∧ (¬ (μ.1 (μ.2.2 0 4) 0) ≤ x4 → (∃ (y3 : Int32) (μ1 : Mem), X8_leftAtWorst d x4 x3 μ y3 μ1 ∧ ((x2 ≤ y3 → X9_bestLook_at22 d x1 x2 x3 (x4 + 1) μ1 x μ') ∧ (¬ x2 ≤ y3 → X9_bestLook_at22 d ((10 * x3) + x4) y3 x3 (x4 + 1) μ1 x μ')))))) : X9_bestLook_at22 d x1 x2 x3 x4 μ x μ' := by
  refine Ev_iload dX9_bestLook_22 rfl ?_
  refine Ev_aload_n dX9_bestLook_24 rfl ?_
  refine Ev_getP flX9_30 rfl dX9_bestLook_25 ?_
  refine Ev_getI flX9_166 rfl dX9_bestLook_28 ?_
  refine Ev_icmp_ge 69 dX9_bestLook_31 (by decide) (fun q => ?_) (fun q => ?_)
  · have h := h.1 q
    refine Ev_iinc (x3 + 1) dX9_bestLook_69 rfl rfl (okp_of rfl) ?_
    refine Ev_goto 8 dX9_bestLook_72 (by decide) ?_
    refine Ev_weak ?_ h
    exact And.intro rfl (And.intro rfl (And.intro rfl (And.intro rfl (And.intro trivial (And.intro trivial (trivial))))))
  · have h := h.2 q
    refine Ev_aload_n dX9_bestLook_34 rfl ?_
    refine Ev_getF 8 0 192 flX9_71 rfl dX9_bestLook_35 ?_
    refine Ev_iload dX9_bestLook_38 rfl ?_
    refine Ev_iload_n dX9_bestLook_40 rfl ?_
    obtain ⟨y3, μ1, hM2, h⟩ := h
    refine Ev_callV [_, _] mlX9_340 rfl rfl (Nat.le_of_ble_eq_true rfl) dX9_bestLook_41 hM2 ?_
    refine Ev_istore dX9_bestLook_44 (Nat.le_of_ble_eq_true rfl) (okp_of rfl) ?_
    refine Ev_iload dX9_bestLook_46 rfl ?_
    refine Ev_iload_n dX9_bestLook_48 rfl ?_
    refine Ev_icmp_ge 63 dX9_bestLook_49 (by decide) (fun q => ?_) (fun q => ?_)
    · have h := h.1 q
      refine Ev_iinc (x4 + 1) dX9_bestLook_63 rfl rfl (okp_of rfl) ?_
      refine Ev_goto 22 dX9_bestLook_66 (by decide) ?_
      refine Ev_weak ?_ h
      exact And.intro rfl (And.intro rfl (And.intro rfl (And.intro rfl (And.intro rfl (And.intro trivial (trivial))))))
    · have h := h.2 q
      refine Ev_iload dX9_bestLook_52 rfl ?_
      refine Ev_istore_n dX9_bestLook_54 (Nat.le_of_ble_eq_true rfl) (okp_of rfl) ?_
      refine Ev_bipush 10 dX9_bestLook_55 (by decide) ?_
      refine Ev_iload_n dX9_bestLook_57 rfl ?_
      refine Ev_imul dX9_bestLook_58 ?_
      refine Ev_iload dX9_bestLook_59 rfl ?_
      refine Ev_iadd dX9_bestLook_61 ?_
      refine Ev_istore_n dX9_bestLook_62 (Nat.le_of_ble_eq_true rfl) (okp_of rfl) ?_
      refine Ev_iinc (x4 + 1) dX9_bestLook_63 rfl rfl (okp_of rfl) ?_
      refine Ev_goto 22 dX9_bestLook_66 (by decide) ?_
      refine Ev_weak ?_ h
      exact And.intro rfl (And.intro rfl (And.intro rfl (And.intro rfl (And.intro rfl (And.intro trivial (trivial))))))
set_option maxHeartbeats 4000000 in
set_option maxRecDepth 100000 in
theorem X9_bestService_ok {d : Nat} {x1 : Int32} {μ μ' : Mem} {x : Int32} (h : X9_bestService_at4 d x1 1 0 μ x μ') : X9_bestService (d + 1) x1 μ x μ' := by
  refine Me_of [some (vr 9 0 0), some (vi x1), none, none, none, none, none] rfl (Nat.le_of_ble_eq_true rfl) (by decide) ?_
  refine Ev_iconst 1 dX9_bestService_0 (by decide) ?_
  refine Ev_istore_n dX9_bestService_1 (Nat.le_of_ble_eq_true rfl) (okp_of rfl) ?_
  refine Ev_iconst 0 dX9_bestService_2 (by decide) ?_
  refine Ev_istore_n dX9_bestService_3 (Nat.le_of_ble_eq_true rfl) (okp_of rfl) ?_
  exact h
set_option maxHeartbeats 4000000 in
set_option maxRecDepth 100000 in
theorem X9_bestService_at4_ok {d : Nat} {x1 : Int32} {x2 : Int32} {x3 : Int32} {μ μ' : Mem} {x : Int32} (h : (((μ.1 (μ.2.2 0 4) 3) ≤ x3 → X9_bestService_at41 d x1 x2 0 1000000 0 μ x μ') ∧ (¬ (μ.1 (μ.2.2 0 4) 3) ≤ x3 → X9_bestService_at4 d x1 (x2 * (μ.1 (μ.2.2 0 4) 2)) (x3 + 1) μ x μ'))) : X9_bestService_at4 d x1 x2 x3 μ x μ' := by
  refine Ev_iload_n dX9_bestService_4 rfl ?_
  refine Ev_aload_n dX9_bestService_5 rfl ?_
  refine Ev_getP flX9_30 rfl dX9_bestService_6 ?_
  refine Ev_getI flX9_175 rfl dX9_bestService_9 ?_
  refine Ev_icmp_ge 31 dX9_bestService_12 (by decide) (fun q => ?_) (fun q => ?_)
  · have h := h.1 q
    refine Ev_iconst 0 dX9_bestService_31 (by decide) ?_
    refine Ev_istore_n dX9_bestService_32 (Nat.le_of_ble_eq_true rfl) (okp_of rfl) ?_
    refine Ev_ldcw 1000000 dX9_bestService_33 (ts5 69 rfl rfl) ?_
    refine Ev_istore dX9_bestService_36 (Nat.le_of_ble_eq_true rfl) (okp_of rfl) ?_
    refine Ev_iconst 0 dX9_bestService_38 (by decide) ?_
    refine Ev_istore dX9_bestService_39 (Nat.le_of_ble_eq_true rfl) (okp_of rfl) ?_
    exact h
  · have h := h.2 q
    refine Ev_iload_n dX9_bestService_15 rfl ?_
    refine Ev_aload_n dX9_bestService_16 rfl ?_
    refine Ev_getP flX9_30 rfl dX9_bestService_17 ?_
    refine Ev_getI flX9_172 rfl dX9_bestService_20 ?_
    refine Ev_imul dX9_bestService_23 ?_
    refine Ev_istore_n dX9_bestService_24 (Nat.le_of_ble_eq_true rfl) (okp_of rfl) ?_
    refine Ev_iinc (x3 + 1) dX9_bestService_25 rfl rfl (okp_of rfl) ?_
    refine Ev_goto 4 dX9_bestService_28 (by decide) ?_
    exact h
set_option maxHeartbeats 4000000 in
set_option maxRecDepth 100000 in
theorem X9_bestService_at41_ok {d : Nat} {x1 : Int32} {x2 : Int32} {x3 : Int32} {x4 : Int32} {x5 : Int32} {μ μ' : Mem} {x : Int32} (h : ((x2 ≤ x5 → ((x1 ≠ (-1) → (∃ (y3 : Int32) (μ1 : Mem), X9_servedBy d x3 x1 μ y3 μ1 ∧ (x = y3 ∧ μ' = μ1))) ∧ (x1 = (-1) → (x = x4 ∧ μ' = μ)))) ∧ (¬ x2 ≤ x5 → (∃ (y6 : Int32) (μ4 : Mem), X9_serviceSum d x5 μ y6 μ4 ∧ ((y6 < 0 → X9_bestService_at41 d x1 x2 x3 x4 (x5 + 1) μ4 x μ') ∧ (¬ y6 < 0 → ((x4 ≤ y6 → X9_bestService_at41 d x1 x2 x3 x4 (x5 + 1) μ4 x μ') ∧ (¬ x4 ≤ y6 → X9_bestService_at41 d x1 x2 x5 y6 (x5 + 1) μ4 x μ')))))))) : X9_bestService_at41 d x1 x2 x3 x4 x5 μ x μ' := by
  refine Ev_iload dX9_bestService_41 rfl ?_
  refine Ev_iload_n dX9_bestService_43 rfl ?_
  refine Ev_icmp_ge 80 dX9_bestService_44 (by decide) (fun q => ?_) (fun q => ?_)
  · have h := h.1 q
    refine Ev_iload_n dX9_bestService_80 rfl ?_
    refine Ev_iconst (-1) dX9_bestService_81 (by decide) ?_
    refine Ev_icmp_ne 90 dX9_bestService_82 (by decide) (fun q => ?_) (fun q => ?_)
    · have h := h.1 q
      refine Ev_aload_n dX9_bestService_90 rfl ?_
      refine Ev_iload_n dX9_bestService_91 rfl ?_
      refine Ev_iload_n dX9_bestService_92 rfl ?_
      obtain ⟨y3, μ1, hM2, h⟩ := h
      refine Ev_callV [_, _] mlX9_292 rfl rfl (Nat.le_of_ble_eq_true rfl) dX9_bestService_93 hM2 ?_
      obtain ⟨rfl, rfl⟩ := h
      exact R_i rfl dX9_bestService_96 rfl
    · have h := h.2 q
      refine Ev_iload dX9_bestService_85 rfl ?_
      refine Ev_goto 96 dX9_bestService_87 (by decide) ?_
      obtain ⟨rfl, rfl⟩ := h
      exact R_i rfl dX9_bestService_96 rfl
  · have h := h.2 q
    refine Ev_aload_n dX9_bestService_47 rfl ?_
    refine Ev_iload dX9_bestService_48 rfl ?_
    obtain ⟨y6, μ4, hM5, h⟩ := h
    refine Ev_callV [_] mlX9_289 rfl rfl (Nat.le_of_ble_eq_true rfl) dX9_bestService_50 hM5 ?_
    refine Ev_istore dX9_bestService_53 (Nat.le_of_ble_eq_true rfl) (okp_of rfl) ?_
    refine Ev_iload dX9_bestService_55 rfl ?_
    refine Ev_if_lt 74 dX9_bestService_57 (by decide) (fun q => ?_) (fun q => ?_)
    · have h := h.1 q
      refine Ev_iinc (x5 + 1) dX9_bestService_74 rfl rfl (okp_of rfl) ?_
      refine Ev_goto 41 dX9_bestService_77 (by decide) ?_
      refine Ev_weak ?_ h
      exact And.intro rfl (And.intro rfl (And.intro rfl (And.intro rfl (And.intro rfl (And.intro rfl (And.intro trivial (trivial)))))))
    · have h := h.2 q
      refine Ev_iload dX9_bestService_60 rfl ?_
      refine Ev_iload dX9_bestService_62 rfl ?_
      refine Ev_icmp_ge 74 dX9_bestService_64 (by decide) (fun q => ?_) (fun q => ?_)
      · have h := h.1 q
        refine Ev_iinc (x5 + 1) dX9_bestService_74 rfl rfl (okp_of rfl) ?_
        refine Ev_goto 41 dX9_bestService_77 (by decide) ?_
        refine Ev_weak ?_ h
        exact And.intro rfl (And.intro rfl (And.intro rfl (And.intro rfl (And.intro rfl (And.intro rfl (And.intro trivial (trivial)))))))
      · have h := h.2 q
        refine Ev_iload dX9_bestService_67 rfl ?_
        refine Ev_istore dX9_bestService_69 (Nat.le_of_ble_eq_true rfl) (okp_of rfl) ?_
        refine Ev_iload dX9_bestService_71 rfl ?_
        refine Ev_istore_n dX9_bestService_73 (Nat.le_of_ble_eq_true rfl) (okp_of rfl) ?_
        refine Ev_iinc (x5 + 1) dX9_bestService_74 rfl rfl (okp_of rfl) ?_
        refine Ev_goto 41 dX9_bestService_77 (by decide) ?_
        refine Ev_weak ?_ h
        exact And.intro rfl (And.intro rfl (And.intro rfl (And.intro rfl (And.intro rfl (And.intro rfl (And.intro trivial (trivial)))))))
set_option maxHeartbeats 4000000 in
set_option maxRecDepth 100000 in
theorem X9_cell_ok {d : Nat} {x1 : Int32} {x2 : Int32} {x3 : Int32} {μ μ' : Mem} {x : Int32} (h : (∃ (y3 : Int32) (μ1 : Mem), X3_hasCell d (μ.2.2 0 4) x1 x2 μ y3 μ1 ∧ ((y3 = 0 → (x = (-1) ∧ μ' = μ1)) ∧ (¬ y3 = 0 → ((x3 < 0 → (x = (-1) ∧ μ' = μ1)) ∧ (¬ x3 < 0 → ((x3 ≤ 3 → (∃ (y6 : Int32) (μ4 : Mem), X3_fieldAt d (μ1.2.2 0 4) x1 x2 μ1 y6 μ4 ∧ (∃ (y9 : Int32) (μ7 : Mem), X5_waterAt d 13 x1 x2 μ4 y9 μ7 ∧ ((x3 = 0 → (x = y6 ∧ μ' = μ7)) ∧ (x3 = 1 → (x = y9 ∧ μ' = μ7)) ∧ (x3 = 2 → (∃ (y12 : Int32) (μ10 : Mem), X3_lacks d (μ7.2.2 0 4) y6 y9 μ7 y12 μ10 ∧ ((y12 = 0 → (x = 0 ∧ μ' = μ10)) ∧ (¬ y12 = 0 → (x = 1 ∧ μ' = μ10))))) ∧ (((x3).toInt < 0 ∨ 2 < (x3).toInt) → (∃ (y15 : Int32) (μ13 : Mem), X3_drowned d (μ7.2.2 0 4) y6 y9 μ7 y15 μ13 ∧ ((y15 = 0 → (x = 0 ∧ μ' = μ13)) ∧ (¬ y15 = 0 → (x = 1 ∧ μ' = μ13))))))))) ∧ (¬ x3 ≤ 3 → (x = (-1) ∧ μ' = μ1))))))))) : X9_cell (d + 1) x1 x2 x3 μ x μ' := by
  refine Me_of [some (vr 9 0 0), some (vi x1), some (vi x2), some (vi x3), none, none] rfl (Nat.le_of_ble_eq_true rfl) (by decide) ?_
  refine Ev_aload_n dX9_cell_0 rfl ?_
  refine Ev_getP flX9_30 rfl dX9_cell_1 ?_
  refine Ev_iload_n dX9_cell_4 rfl ?_
  refine Ev_iload_n dX9_cell_5 rfl ?_
  obtain ⟨y3, μ1, hM2, h⟩ := h
  refine Ev_callV [_, _] mlX9_107 rfl rfl (Nat.le_of_ble_eq_true rfl) dX9_cell_6 hM2 ?_
  refine Ev_if_eq 21 dX9_cell_9 (by decide) (fun q => ?_) (fun q => ?_)
  · have h := h.1 q
    refine Ev_iconst (-1) dX9_cell_21 (by decide) ?_
    obtain ⟨rfl, rfl⟩ := h
    exact R_i rfl dX9_cell_22 rfl
  · have h := h.2 q
    refine Ev_iload_n dX9_cell_12 rfl ?_
    refine Ev_if_lt 21 dX9_cell_13 (by decide) (fun q => ?_) (fun q => ?_)
    · have h := h.1 q
      refine Ev_iconst (-1) dX9_cell_21 (by decide) ?_
      obtain ⟨rfl, rfl⟩ := h
      exact R_i rfl dX9_cell_22 rfl
    · have h := h.2 q
      refine Ev_iload_n dX9_cell_16 rfl ?_
      refine Ev_iconst 3 dX9_cell_17 (by decide) ?_
      refine Ev_icmp_le 23 dX9_cell_18 (by decide) (fun q => ?_) (fun q => ?_)
      · have h := h.1 q
        refine Ev_aload_n dX9_cell_23 rfl ?_
        refine Ev_getP flX9_30 rfl dX9_cell_24 ?_
        refine Ev_iload_n dX9_cell_27 rfl ?_
        refine Ev_iload_n dX9_cell_28 rfl ?_
        obtain ⟨y6, μ4, hM5, h⟩ := h
        refine Ev_callV [_, _] mlX9_111 rfl rfl (Nat.le_of_ble_eq_true rfl) dX9_cell_29 hM5 ?_
        refine Ev_istore dX9_cell_32 (Nat.le_of_ble_eq_true rfl) (okp_of rfl) ?_
        refine Ev_aload_n dX9_cell_34 rfl ?_
        refine Ev_getF 5 0 13 flX9_46 rfl dX9_cell_35 ?_
        refine Ev_iload_n dX9_cell_38 rfl ?_
        refine Ev_iload_n dX9_cell_39 rfl ?_
        obtain ⟨y9, μ7, hM8, h⟩ := h
        refine Ev_callV [_, _] mlX9_115 rfl rfl (Nat.le_of_ble_eq_true rfl) dX9_cell_40 hM8 ?_
        refine Ev_istore dX9_cell_43 (Nat.le_of_ble_eq_true rfl) (okp_of rfl) ?_
        refine Ev_iload_n dX9_cell_45 rfl ?_
        refine Ev_tab 98 dX9_cell_46 (by decide) (fun k hk e => ?_) (fun q => ?_)
        · rcases (show k = 0 ∨ k = 1 ∨ k = 2 by omega) with rfl | rfl | rfl
          · have h := h.1 (Int32.toInt_inj.mp (e.trans (by decide)))
            refine ⟨_, 72, rfl, by decide, ?_⟩
            refine Ev_iload dX9_cell_72 rfl ?_
            obtain ⟨rfl, rfl⟩ := h
            exact R_i rfl dX9_cell_74 rfl
          · have h := h.2.1 (Int32.toInt_inj.mp (e.trans (by decide)))
            refine ⟨_, 75, rfl, by decide, ?_⟩
            refine Ev_iload dX9_cell_75 rfl ?_
            obtain ⟨rfl, rfl⟩ := h
            exact R_i rfl dX9_cell_77 rfl
          · have h := h.2.2.1 (Int32.toInt_inj.mp (e.trans (by decide)))
            refine ⟨_, 78, rfl, by decide, ?_⟩
            refine Ev_aload_n dX9_cell_78 rfl ?_
            refine Ev_getP flX9_30 rfl dX9_cell_79 ?_
            refine Ev_iload dX9_cell_82 rfl ?_
            refine Ev_iload dX9_cell_84 rfl ?_
            obtain ⟨y12, μ10, hM11, h⟩ := h
            refine Ev_callV [_, _] mlX9_118 rfl rfl (Nat.le_of_ble_eq_true rfl) dX9_cell_86 hM11 ?_
            refine Ev_if_eq 96 dX9_cell_89 (by decide) (fun q => ?_) (fun q => ?_)
            · have h := h.1 q
              refine Ev_iconst 0 dX9_cell_96 (by decide) ?_
              obtain ⟨rfl, rfl⟩ := h
              exact R_i rfl dX9_cell_97 rfl
            · have h := h.2 q
              refine Ev_iconst 1 dX9_cell_92 (by decide) ?_
              refine Ev_goto 97 dX9_cell_93 (by decide) ?_
              obtain ⟨rfl, rfl⟩ := h
              exact R_i rfl dX9_cell_97 rfl
        · have h := h.2.2.2 q
          refine Ev_aload_n dX9_cell_98 rfl ?_
          refine Ev_getP flX9_30 rfl dX9_cell_99 ?_
          refine Ev_iload dX9_cell_102 rfl ?_
          refine Ev_iload dX9_cell_104 rfl ?_
          obtain ⟨y15, μ13, hM14, h⟩ := h
          refine Ev_callV [_, _] mlX9_121 rfl rfl (Nat.le_of_ble_eq_true rfl) dX9_cell_106 hM14 ?_
          refine Ev_if_eq 116 dX9_cell_109 (by decide) (fun q => ?_) (fun q => ?_)
          · have h := h.1 q
            refine Ev_iconst 0 dX9_cell_116 (by decide) ?_
            obtain ⟨rfl, rfl⟩ := h
            exact R_i rfl dX9_cell_117 rfl
          · have h := h.2 q
            refine Ev_iconst 1 dX9_cell_112 (by decide) ?_
            refine Ev_goto 117 dX9_cell_113 (by decide) ?_
            obtain ⟨rfl, rfl⟩ := h
            exact R_i rfl dX9_cell_117 rfl
      · have h := h.2 q
        refine Ev_iconst (-1) dX9_cell_21 (by decide) ?_
        obtain ⟨rfl, rfl⟩ := h
        exact R_i rfl dX9_cell_22 rfl
set_option maxHeartbeats 4000000 in
set_option maxRecDepth 100000 in
theorem X9_comes_ok {d : Nat} {x1 : Int32} {x2 : Int32} {x3 : Int32} {μ μ' : Mem} {x : Int32} (h : (∃ (y3 : Int32) (μ1 : Mem), X9_isPiece d x1 x2 1 μ y3 μ1 ∧ ((y3 = 0 → (x = (-1) ∧ μ' = μ1)) ∧ (¬ y3 = 0 → ((x3 < 0 → (x = (-1) ∧ μ' = μ1)) ∧ (¬ x3 < 0 → ((x3 < (1 <<< (x2 &&& 31)) → (∃ (y6 : Int32) (μ4 : Mem), X5_part d 13 x1 1 μ1 y6 μ4 ∧ X9_comes_at37 d x1 x2 x3 y6 0 μ4 x μ')) ∧ (¬ x3 < (1 <<< (x2 &&& 31)) → (x = (-1) ∧ μ' = μ1))))))))) : X9_comes (d + 1) x1 x2 x3 μ x μ' := by
  refine Me_of [some (vr 9 0 0), some (vi x1), some (vi x2), some (vi x3), none, none] rfl (Nat.le_of_ble_eq_true rfl) (by decide) ?_
  refine Ev_aload_n dX9_comes_0 rfl ?_
  refine Ev_iload_n dX9_comes_1 rfl ?_
  refine Ev_iload_n dX9_comes_2 rfl ?_
  refine Ev_iconst 1 dX9_comes_3 (by decide) ?_
  obtain ⟨y3, μ1, hM2, h⟩ := h
  refine Ev_callV [_, _, _] mlX9_201 rfl rfl (Nat.le_of_ble_eq_true rfl) dX9_comes_4 hM2 ?_
  refine Ev_if_eq 21 dX9_comes_7 (by decide) (fun q => ?_) (fun q => ?_)
  · have h := h.1 q
    refine Ev_iconst (-1) dX9_comes_21 (by decide) ?_
    obtain ⟨rfl, rfl⟩ := h
    exact R_i rfl dX9_comes_22 rfl
  · have h := h.2 q
    refine Ev_iload_n dX9_comes_10 rfl ?_
    refine Ev_if_lt 21 dX9_comes_11 (by decide) (fun q => ?_) (fun q => ?_)
    · have h := h.1 q
      refine Ev_iconst (-1) dX9_comes_21 (by decide) ?_
      obtain ⟨rfl, rfl⟩ := h
      exact R_i rfl dX9_comes_22 rfl
    · have h := h.2 q
      refine Ev_iload_n dX9_comes_14 rfl ?_
      refine Ev_iconst 1 dX9_comes_15 (by decide) ?_
      refine Ev_iload_n dX9_comes_16 rfl ?_
      refine Ev_ishl dX9_comes_17 ?_
      refine Ev_icmp_lt 23 dX9_comes_18 (by decide) (fun q => ?_) (fun q => ?_)
      · have h := h.1 q
        refine Ev_aload_n dX9_comes_23 rfl ?_
        refine Ev_getF 5 0 13 flX9_46 rfl dX9_comes_24 ?_
        refine Ev_iload_n dX9_comes_27 rfl ?_
        refine Ev_iconst 1 dX9_comes_28 (by decide) ?_
        obtain ⟨y6, μ4, hM5, h⟩ := h
        refine Ev_callV [_, _] mlX9_148 rfl rfl (Nat.le_of_ble_eq_true rfl) dX9_comes_29 hM5 ?_
        refine Ev_istore dX9_comes_32 (Nat.le_of_ble_eq_true rfl) (okp_of rfl) ?_
        refine Ev_iconst 0 dX9_comes_34 (by decide) ?_
        refine Ev_istore dX9_comes_35 (Nat.le_of_ble_eq_true rfl) (okp_of rfl) ?_
        exact h
      · have h := h.2 q
        refine Ev_iconst (-1) dX9_comes_21 (by decide) ?_
        obtain ⟨rfl, rfl⟩ := h
        exact R_i rfl dX9_comes_22 rfl
set_option maxHeartbeats 4000000 in
set_option maxRecDepth 100000 in
theorem X9_comes_at37_ok {d : Nat} {x1 : Int32} {x2 : Int32} {x3 : Int32} {x4 : Int32} {x5 : Int32} {μ μ' : Mem} {x : Int32} (h : ((200 < x5 → (x = (-2) ∧ μ' = μ)) ∧ (¬ 200 < x5 → (∃ (y3 : Int32) (μ1 : Mem), X7_rowAt d x1 (x4 + x5) μ y3 μ1 ∧ (∃ (y6 : Int32) (μ4 : Mem), X7_bitsOf d y3 x2 μ1 y6 μ4 ∧ ((y6 ≠ x3 → X9_comes_at37 d x1 x2 x3 x4 (x5 + 1) μ4 x μ') ∧ (y6 = x3 → (x = x5 ∧ μ' = μ4)))))))) : X9_comes_at37 d x1 x2 x3 x4 x5 μ x μ' := by
  refine Ev_iload dX9_comes_37 rfl ?_
  refine Ev_sipush 200 dX9_comes_39 (by decide) ?_
  refine Ev_icmp_gt 75 dX9_comes_42 (by decide) (fun q => ?_) (fun q => ?_)
  · have h := h.1 q
    refine Ev_bipush (-2) dX9_comes_75 (by decide) ?_
    obtain ⟨rfl, rfl⟩ := h
    exact R_i rfl dX9_comes_77 rfl
  · have h := h.2 q
    refine Ev_aload_n dX9_comes_45 rfl ?_
    refine Ev_getF 7 0 9 flX9_39 rfl dX9_comes_46 ?_
    refine Ev_iload_n dX9_comes_49 rfl ?_
    refine Ev_iload dX9_comes_50 rfl ?_
    refine Ev_iload dX9_comes_52 rfl ?_
    refine Ev_iadd dX9_comes_54 ?_
    obtain ⟨y3, μ1, hM2, h⟩ := h
    refine Ev_callV [_, _] mlX9_154 rfl rfl (Nat.le_of_ble_eq_true rfl) dX9_comes_55 hM2 ?_
    refine Ev_iload_n dX9_comes_58 rfl ?_
    obtain ⟨y6, μ4, hM5, h⟩ := h
    refine Ev_callS [_, _] mlX9_250 rfl rfl (Nat.le_of_ble_eq_true rfl) dX9_comes_59 hM5 ?_
    refine Ev_iload_n dX9_comes_62 rfl ?_
    refine Ev_icmp_ne 69 dX9_comes_63 (by decide) (fun q => ?_) (fun q => ?_)
    · have h := h.1 q
      refine Ev_iinc (x5 + 1) dX9_comes_69 rfl rfl (okp_of rfl) ?_
      refine Ev_goto 37 dX9_comes_72 (by decide) ?_
      exact h
    · have h := h.2 q
      refine Ev_iload dX9_comes_66 rfl ?_
      obtain ⟨rfl, rfl⟩ := h
      exact R_i rfl dX9_comes_68 rfl
set_option maxHeartbeats 4000000 in
set_option maxRecDepth 100000 in
theorem X9_comesRound_ok {d : Nat} {x1 : Int32} {x2 : Int32} {x3 : Int32} {μ μ' : Mem} {x : Int32} (h : X9_comesRound_at3 d x1 x2 x3 x2 μ x μ') : X9_comesRound (d + 1) x1 x2 x3 μ x μ' := by
  refine Me_of [some (vr 9 0 0), some (vi x1), some (vi x2), some (vi x3), none] rfl (Nat.le_of_ble_eq_true rfl) (by decide) ?_
  refine Ev_iload_n dX9_comesRound_0 rfl ?_
  refine Ev_istore dX9_comesRound_1 (Nat.le_of_ble_eq_true rfl) (okp_of rfl) ?_
  exact h
set_option maxHeartbeats 4000000 in
set_option maxRecDepth 100000 in
theorem X9_comesRound_at3_ok {d : Nat} {x1 : Int32} {x2 : Int32} {x3 : Int32} {x4 : Int32} {μ μ' : Mem} {x : Int32} (h : (((x2 + 48) ≤ x4 → (x = 1 ∧ μ' = μ)) ∧ (¬ (x2 + 48) ≤ x4 → (∃ (y3 : Int32) (μ1 : Mem), X7_rowAt d x1 x4 μ y3 μ1 ∧ (∃ (y6 : Int32) (μ4 : Mem), X7_rowAt d x1 (x4 + x3) μ1 y6 μ4 ∧ ((y3 = y6 → X9_comesRound_at3 d x1 x2 x3 (x4 + 1) μ4 x μ') ∧ (¬ y3 = y6 → (x = 0 ∧ μ' = μ4)))))))) : X9_comesRound_at3 d x1 x2 x3 x4 μ x μ' := by
  refine Ev_iload dX9_comesRound_3 rfl ?_
  refine Ev_iload_n dX9_comesRound_5 rfl ?_
  refine Ev_bipush 48 dX9_comesRound_6 (by decide) ?_
  refine Ev_iadd dX9_comesRound_8 ?_
  refine Ev_icmp_ge 45 dX9_comesRound_9 (by decide) (fun q => ?_) (fun q => ?_)
  · have h := h.1 q
    refine Ev_iconst 1 dX9_comesRound_45 (by decide) ?_
    obtain ⟨rfl, rfl⟩ := h
    exact R_i rfl dX9_comesRound_46 rfl
  · have h := h.2 q
    refine Ev_aload_n dX9_comesRound_12 rfl ?_
    refine Ev_getF 7 0 9 flX9_39 rfl dX9_comesRound_13 ?_
    refine Ev_iload_n dX9_comesRound_16 rfl ?_
    refine Ev_iload dX9_comesRound_17 rfl ?_
    obtain ⟨y3, μ1, hM2, h⟩ := h
    refine Ev_callV [_, _] mlX9_154 rfl rfl (Nat.le_of_ble_eq_true rfl) dX9_comesRound_19 hM2 ?_
    refine Ev_aload_n dX9_comesRound_22 rfl ?_
    refine Ev_getF 7 0 9 flX9_39 rfl dX9_comesRound_23 ?_
    refine Ev_iload_n dX9_comesRound_26 rfl ?_
    refine Ev_iload dX9_comesRound_27 rfl ?_
    refine Ev_iload_n dX9_comesRound_29 rfl ?_
    refine Ev_iadd dX9_comesRound_30 ?_
    obtain ⟨y6, μ4, hM5, h⟩ := h
    refine Ev_callV [_, _] mlX9_154 rfl rfl (Nat.le_of_ble_eq_true rfl) dX9_comesRound_31 hM5 ?_
    refine Ev_icmp_eq 39 dX9_comesRound_34 (by decide) (fun q => ?_) (fun q => ?_)
    · have h := h.1 q
      refine Ev_iinc (x4 + 1) dX9_comesRound_39 rfl rfl (okp_of rfl) ?_
      refine Ev_goto 3 dX9_comesRound_42 (by decide) ?_
      exact h
    · have h := h.2 q
      refine Ev_iconst 0 dX9_comesRound_37 (by decide) ?_
      obtain ⟨rfl, rfl⟩ := h
      exact R_i rfl dX9_comesRound_38 rfl
set_option maxHeartbeats 4000000 in
set_option maxRecDepth 100000 in
theorem X9_count_ok {d : Nat} {x1 : Int32} {μ μ' : Mem} {x : Int32} (h : ((x1 = 0 → (x = μ.1 (μ.2.2 0 4) 0 ∧ μ' = μ)) ∧ (x1 = 1 → (x = μ.1 (μ.2.2 0 4) 1 ∧ μ' = μ)) ∧ (x1 = 2 → (x = μ.1 (μ.2.2 0 4) 2 ∧ μ' = μ)) ∧ (x1 = 3 → (x = μ.1 (μ.2.2 0 4) 3 ∧ μ' = μ)) ∧ (x1 = 4 → (x = μ.1 13 0 ∧ μ' = μ)) ∧ (x1 = 5 → (x = μ.1 13 1 ∧ μ' = μ)) ∧ (x1 = 6 → (∃ (y3 : Int32) (μ1 : Mem), X5_sum d 48 14 μ y3 μ1 ∧ (x = y3 ∧ μ' = μ1))) ∧ (x1 = 7 → (∃ (y6 : Int32) (μ4 : Mem), X5_woven d 13 μ y6 μ4 ∧ (x = y6 ∧ μ' = μ4))) ∧ (x1 = 8 → (x = μ.1 0 1 ∧ μ' = μ)) ∧ (x1 = 9 → (x = μ.1 23 2 ∧ μ' = μ)) ∧ (x1 = 10 → (x = μ.1 192 3 ∧ μ' = μ)) ∧ (x1 = 11 → (∃ (y9 : Int32) (μ7 : Mem), X9_heldSlots d μ y9 μ7 ∧ (x = y9 ∧ μ' = μ7))) ∧ (x1 = 12 → (∃ (y12 : Int32) (μ10 : Mem), X5_sum d 6 16 μ y12 μ10 ∧ (x = y12 ∧ μ' = μ10))) ∧ (x1 = 13 → (∃ (y15 : Int32) (μ13 : Mem), X5_sum d 6 17 μ y15 μ13 ∧ (x = y15 ∧ μ' = μ13))) ∧ (((x1).toInt < 0 ∨ 13 < (x1).toInt) → (x = (-1) ∧ μ' = μ)))) : X9_count (d + 1) x1 μ x μ' := by
  refine Me_of [some (vr 9 0 0), some (vi x1)] rfl (Nat.le_of_ble_eq_true rfl) (by decide) ?_
  refine Ev_iload_n dX9_count_0 rfl ?_
  refine Ev_tab 187 dX9_count_1 (by decide) (fun k hk e => ?_) (fun q => ?_)
  · rcases (show k = 0 ∨ k = 1 ∨ k = 2 ∨ k = 3 ∨ k = 4 ∨ k = 5 ∨ k = 6 ∨ k = 7 ∨ k = 8 ∨ k = 9 ∨ k = 10 ∨ k = 11 ∨ k = 12 ∨ k = 13 by omega) with rfl | rfl | rfl | rfl | rfl | rfl | rfl | rfl | rfl | rfl | rfl | rfl | rfl | rfl
    · have h := h.1 (Int32.toInt_inj.mp (e.trans (by decide)))
      refine ⟨_, 72, rfl, by decide, ?_⟩
      refine Ev_aload_n dX9_count_72 rfl ?_
      refine Ev_getP flX9_30 rfl dX9_count_73 ?_
      refine Ev_getI flX9_166 rfl dX9_count_76 ?_
      obtain ⟨rfl, rfl⟩ := h
      exact R_i rfl dX9_count_79 rfl
    · have h := h.2.1 (Int32.toInt_inj.mp (e.trans (by decide)))
      refine ⟨_, 80, rfl, by decide, ?_⟩
      refine Ev_aload_n dX9_count_80 rfl ?_
      refine Ev_getP flX9_30 rfl dX9_count_81 ?_
      refine Ev_getI flX9_169 rfl dX9_count_84 ?_
      obtain ⟨rfl, rfl⟩ := h
      exact R_i rfl dX9_count_87 rfl
    · have h := h.2.2.1 (Int32.toInt_inj.mp (e.trans (by decide)))
      refine ⟨_, 88, rfl, by decide, ?_⟩
      refine Ev_aload_n dX9_count_88 rfl ?_
      refine Ev_getP flX9_30 rfl dX9_count_89 ?_
      refine Ev_getI flX9_172 rfl dX9_count_92 ?_
      obtain ⟨rfl, rfl⟩ := h
      exact R_i rfl dX9_count_95 rfl
    · have h := h.2.2.2.1 (Int32.toInt_inj.mp (e.trans (by decide)))
      refine ⟨_, 96, rfl, by decide, ?_⟩
      refine Ev_aload_n dX9_count_96 rfl ?_
      refine Ev_getP flX9_30 rfl dX9_count_97 ?_
      refine Ev_getI flX9_175 rfl dX9_count_100 ?_
      obtain ⟨rfl, rfl⟩ := h
      exact R_i rfl dX9_count_103 rfl
    · have h := h.2.2.2.2.1 (Int32.toInt_inj.mp (e.trans (by decide)))
      refine ⟨_, 104, rfl, by decide, ?_⟩
      refine Ev_aload_n dX9_count_104 rfl ?_
      refine Ev_getF 5 0 13 flX9_46 rfl dX9_count_105 ?_
      refine Ev_getI flX9_178 rfl dX9_count_108 ?_
      obtain ⟨rfl, rfl⟩ := h
      exact R_i rfl dX9_count_111 rfl
    · have h := h.2.2.2.2.2.1 (Int32.toInt_inj.mp (e.trans (by decide)))
      refine ⟨_, 112, rfl, by decide, ?_⟩
      refine Ev_aload_n dX9_count_112 rfl ?_
      refine Ev_getF 5 0 13 flX9_46 rfl dX9_count_113 ?_
      refine Ev_getI flX9_181 rfl dX9_count_116 ?_
      obtain ⟨rfl, rfl⟩ := h
      exact R_i rfl dX9_count_119 rfl
    · have h := h.2.2.2.2.2.2.1 (Int32.toInt_inj.mp (e.trans (by decide)))
      refine ⟨_, 120, rfl, by decide, ?_⟩
      refine Ev_aload_n dX9_count_120 rfl ?_
      refine Ev_getF 5 0 13 flX9_46 rfl dX9_count_121 ?_
      refine Ev_getF 11 48 1 flX9_160 rfl dX9_count_124 ?_
      obtain ⟨y3, μ1, hM2, h⟩ := h
      refine Ev_callS [_] mlX9_184 rfl rfl (Nat.le_of_ble_eq_true rfl) dX9_count_127 hM2 ?_
      obtain ⟨rfl, rfl⟩ := h
      exact R_i rfl dX9_count_130 rfl
    · have h := h.2.2.2.2.2.2.2.1 (Int32.toInt_inj.mp (e.trans (by decide)))
      refine ⟨_, 131, rfl, by decide, ?_⟩
      refine Ev_aload_n dX9_count_131 rfl ?_
      refine Ev_getF 5 0 13 flX9_46 rfl dX9_count_132 ?_
      obtain ⟨y6, μ4, hM5, h⟩ := h
      refine Ev_callV [] mlX9_188 rfl rfl (Nat.le_of_ble_eq_true rfl) dX9_count_135 hM5 ?_
      obtain ⟨rfl, rfl⟩ := h
      exact R_i rfl dX9_count_138 rfl
    · have h := h.2.2.2.2.2.2.2.2.1 (Int32.toInt_inj.mp (e.trans (by decide)))
      refine ⟨_, 139, rfl, by decide, ?_⟩
      refine Ev_aload_n dX9_count_139 rfl ?_
      refine Ev_getI flX9_13 rfl dX9_count_140 ?_
      obtain ⟨rfl, rfl⟩ := h
      exact R_i rfl dX9_count_143 rfl
    · have h := h.2.2.2.2.2.2.2.2.2.1 (Int32.toInt_inj.mp (e.trans (by decide)))
      refine ⟨_, 144, rfl, by decide, ?_⟩
      refine Ev_aload_n dX9_count_144 rfl ?_
      refine Ev_getF 2 0 23 flX9_56 rfl dX9_count_145 ?_
      refine Ev_getI flX9_192 rfl dX9_count_148 ?_
      obtain ⟨rfl, rfl⟩ := h
      exact R_i rfl dX9_count_151 rfl
    · have h := h.2.2.2.2.2.2.2.2.2.2.1 (Int32.toInt_inj.mp (e.trans (by decide)))
      refine ⟨_, 152, rfl, by decide, ?_⟩
      refine Ev_aload_n dX9_count_152 rfl ?_
      refine Ev_getF 8 0 192 flX9_71 rfl dX9_count_153 ?_
      refine Ev_getI flX9_195 rfl dX9_count_156 ?_
      obtain ⟨rfl, rfl⟩ := h
      exact R_i rfl dX9_count_159 rfl
    · have h := h.2.2.2.2.2.2.2.2.2.2.2.1 (Int32.toInt_inj.mp (e.trans (by decide)))
      refine ⟨_, 160, rfl, by decide, ?_⟩
      refine Ev_aload_n dX9_count_160 rfl ?_
      obtain ⟨y9, μ7, hM8, h⟩ := h
      refine Ev_callV [] mlX9_198 rfl rfl (Nat.le_of_ble_eq_true rfl) dX9_count_161 hM8 ?_
      obtain ⟨rfl, rfl⟩ := h
      exact R_i rfl dX9_count_164 rfl
    · have h := h.2.2.2.2.2.2.2.2.2.2.2.2.1 (Int32.toInt_inj.mp (e.trans (by decide)))
      refine ⟨_, 165, rfl, by decide, ?_⟩
      refine Ev_aload_n dX9_count_165 rfl ?_
      refine Ev_getF 5 0 13 flX9_46 rfl dX9_count_166 ?_
      refine Ev_getF 11 6 3 flX9_135 rfl dX9_count_169 ?_
      obtain ⟨y12, μ10, hM11, h⟩ := h
      refine Ev_callS [_] mlX9_184 rfl rfl (Nat.le_of_ble_eq_true rfl) dX9_count_172 hM11 ?_
      obtain ⟨rfl, rfl⟩ := h
      exact R_i rfl dX9_count_175 rfl
    · have h := h.2.2.2.2.2.2.2.2.2.2.2.2.2.1 (Int32.toInt_inj.mp (e.trans (by decide)))
      refine ⟨_, 176, rfl, by decide, ?_⟩
      refine Ev_aload_n dX9_count_176 rfl ?_
      refine Ev_getF 5 0 13 flX9_46 rfl dX9_count_177 ?_
      refine Ev_getF 11 6 4 flX9_138 rfl dX9_count_180 ?_
      obtain ⟨y15, μ13, hM14, h⟩ := h
      refine Ev_callS [_] mlX9_184 rfl rfl (Nat.le_of_ble_eq_true rfl) dX9_count_183 hM14 ?_
      obtain ⟨rfl, rfl⟩ := h
      exact R_i rfl dX9_count_186 rfl
  · have h := h.2.2.2.2.2.2.2.2.2.2.2.2.2.2 q
    refine Ev_iconst (-1) dX9_count_187 (by decide) ?_
    obtain ⟨rfl, rfl⟩ := h
    exact R_i rfl dX9_count_188 rfl
set_option maxHeartbeats 4000000 in
set_option maxRecDepth 100000 in
theorem X9_cut_ok {d : Nat} {x1 : Int32} {x2 : Int32} {x3 : Int32} {x4 : Int32} {μ μ' : Mem} {x : Int32} (h : (∃ (μ1 : Mem), X0_clear d μ μ1 ∧ (∃ (y5 : Int32) (μ3 : Mem), X0_add d x1 μ1 y5 μ3 ∧ ((y5 = 0 → X9_cut_at42 d x2 x3 x4 0 μ3 x μ') ∧ (¬ y5 = 0 → ((x2 = 0 → X9_cut_at42 d x2 x3 x4 1 μ3 x μ') ∧ (¬ x2 = 0 → (∃ (y8 : Int32) (μ6 : Mem), X0_add d x2 μ3 y8 μ6 ∧ ((y8 = 0 → X9_cut_at42 d x2 x3 x4 0 μ6 x μ') ∧ (¬ y8 = 0 → X9_cut_at42 d x2 x3 x4 1 μ6 x μ')))))))))) : X9_cut (d + 1) x1 x2 x3 x4 μ x μ' := by
  refine Me_of [some (vr 9 0 0), some (vi x1), some (vi x2), some (vi x3), some (vi x4), none] rfl (Nat.le_of_ble_eq_true rfl) (by decide) ?_
  refine Ev_aload_n dX9_cut_0 rfl ?_
  refine Ev_getF 0 0 203 flX9_78 rfl dX9_cut_1 ?_
  obtain ⟨μ1, hM2, h⟩ := h
  refine Ev_callV [] mlX9_268 rfl rfl (Nat.le_of_ble_eq_true rfl) dX9_cut_4 hM2 ?_
  refine Ev_aload_n dX9_cut_7 rfl ?_
  refine Ev_getF 0 0 203 flX9_78 rfl dX9_cut_8 ?_
  refine Ev_iload_n dX9_cut_11 rfl ?_
  obtain ⟨y5, μ3, hM4, h⟩ := h
  refine Ev_callV [_] mlX9_269 rfl rfl (Nat.le_of_ble_eq_true rfl) dX9_cut_12 hM4 ?_
  refine Ev_istore dX9_cut_15 (Nat.le_of_ble_eq_true rfl) (okp_of rfl) ?_
  refine Ev_iload dX9_cut_17 rfl ?_
  refine Ev_if_eq 41 dX9_cut_19 (by decide) (fun q => ?_) (fun q => ?_)
  · have h := h.1 q
    refine Ev_iconst 0 dX9_cut_41 (by decide) ?_
    refine Ev_weak ?_ h
    exact And.intro rfl (And.intro trivial (And.intro rfl (And.intro rfl (And.intro rfl (And.intro trivial (trivial))))))
  · have h := h.2 q
    refine Ev_iload_n dX9_cut_22 rfl ?_
    refine Ev_if_eq 37 dX9_cut_23 (by decide) (fun q => ?_) (fun q => ?_)
    · have h := h.1 q
      refine Ev_iconst 1 dX9_cut_37 (by decide) ?_
      refine Ev_goto 42 dX9_cut_38 (by decide) ?_
      refine Ev_weak ?_ h
      exact And.intro rfl (And.intro trivial (And.intro rfl (And.intro rfl (And.intro rfl (And.intro trivial (trivial))))))
    · have h := h.2 q
      refine Ev_aload_n dX9_cut_26 rfl ?_
      refine Ev_getF 0 0 203 flX9_78 rfl dX9_cut_27 ?_
      refine Ev_iload_n dX9_cut_30 rfl ?_
      obtain ⟨y8, μ6, hM7, h⟩ := h
      refine Ev_callV [_] mlX9_269 rfl rfl (Nat.le_of_ble_eq_true rfl) dX9_cut_31 hM7 ?_
      refine Ev_if_eq 41 dX9_cut_34 (by decide) (fun q => ?_) (fun q => ?_)
      · have h := h.1 q
        refine Ev_iconst 0 dX9_cut_41 (by decide) ?_
        refine Ev_weak ?_ h
        exact And.intro rfl (And.intro trivial (And.intro rfl (And.intro rfl (And.intro rfl (And.intro trivial (trivial))))))
      · have h := h.2 q
        refine Ev_iconst 1 dX9_cut_37 (by decide) ?_
        refine Ev_goto 42 dX9_cut_38 (by decide) ?_
        refine Ev_weak ?_ h
        exact And.intro rfl (And.intro trivial (And.intro rfl (And.intro rfl (And.intro rfl (And.intro trivial (trivial))))))
set_option maxHeartbeats 4000000 in
set_option maxRecDepth 100000 in
theorem X9_cut_at42_ok {d : Nat} {x2 : Int32} {x3 : Int32} {x4 : Int32} {s0 : Int32} {μ μ' : Mem} {x : Int32} (h : ((s0 = 0 → X9_cut_at72 d x3 x4 μ x μ') ∧ (¬ s0 = 0 → ((x3 = 0 → X9_cut_at68 d x3 x4 μ x μ') ∧ (¬ x3 = 0 → ((x2 = 0 → X9_cut_at72 d x3 x4 μ x μ') ∧ (¬ x2 = 0 → (∃ (y3 : Int32) (μ1 : Mem), X0_add d x3 μ y3 μ1 ∧ ((y3 = 0 → X9_cut_at72 d x3 x4 μ1 x μ') ∧ (¬ y3 = 0 → X9_cut_at68 d x3 x4 μ1 x μ')))))))))) : X9_cut_at42 d x2 x3 x4 s0 μ x μ' := by
  refine Ev_istore dX9_cut_42 (Nat.le_of_ble_eq_true rfl) (okp_of rfl) ?_
  refine Ev_iload dX9_cut_44 rfl ?_
  refine Ev_if_eq 72 dX9_cut_46 (by decide) (fun q => ?_) (fun q => ?_)
  · have h := h.1 q
    refine Ev_weak ?_ h
    exact And.intro rfl (And.intro trivial (And.intro trivial (And.intro rfl (And.intro rfl (And.intro trivial (trivial))))))
  · have h := h.2 q
    refine Ev_iload_n dX9_cut_49 rfl ?_
    refine Ev_if_eq 68 dX9_cut_50 (by decide) (fun q => ?_) (fun q => ?_)
    · have h := h.1 q
      refine Ev_weak ?_ h
      exact And.intro rfl (And.intro trivial (And.intro trivial (And.intro rfl (And.intro rfl (And.intro trivial (trivial))))))
    · have h := h.2 q
      refine Ev_iload_n dX9_cut_53 rfl ?_
      refine Ev_if_eq 72 dX9_cut_54 (by decide) (fun q => ?_) (fun q => ?_)
      · have h := h.1 q
        refine Ev_weak ?_ h
        exact And.intro rfl (And.intro trivial (And.intro trivial (And.intro rfl (And.intro rfl (And.intro trivial (trivial))))))
      · have h := h.2 q
        refine Ev_aload_n dX9_cut_57 rfl ?_
        refine Ev_getF 0 0 203 flX9_78 rfl dX9_cut_58 ?_
        refine Ev_iload_n dX9_cut_61 rfl ?_
        obtain ⟨y3, μ1, hM2, h⟩ := h
        refine Ev_callV [_] mlX9_269 rfl rfl (Nat.le_of_ble_eq_true rfl) dX9_cut_62 hM2 ?_
        refine Ev_if_eq 72 dX9_cut_65 (by decide) (fun q => ?_) (fun q => ?_)
        · have h := h.1 q
          refine Ev_weak ?_ h
          exact And.intro rfl (And.intro trivial (And.intro trivial (And.intro rfl (And.intro rfl (And.intro trivial (trivial))))))
        · have h := h.2 q
          refine Ev_weak ?_ h
          exact And.intro rfl (And.intro trivial (And.intro trivial (And.intro rfl (And.intro rfl (And.intro trivial (trivial))))))
set_option maxHeartbeats 4000000 in
set_option maxRecDepth 100000 in
theorem X9_cut_at72_ok {d : Nat} {x3 : Int32} {x4 : Int32} {μ μ' : Mem} {x : Int32} (h : X9_cut_at73 d x3 x4 0 μ x μ') : X9_cut_at72 d x3 x4 μ x μ' := by
  refine Ev_iconst 0 dX9_cut_72 (by decide) ?_
  exact h
set_option maxHeartbeats 4000000 in
set_option maxRecDepth 100000 in
theorem X9_cut_at68_ok {d : Nat} {x3 : Int32} {x4 : Int32} {μ μ' : Mem} {x : Int32} (h : X9_cut_at73 d x3 x4 1 μ x μ') : X9_cut_at68 d x3 x4 μ x μ' := by
  refine Ev_iconst 1 dX9_cut_68 (by decide) ?_
  refine Ev_goto 73 dX9_cut_69 (by decide) ?_
  exact h
set_option maxHeartbeats 4000000 in
set_option maxRecDepth 100000 in
theorem X9_cut_at73_ok {d : Nat} {x3 : Int32} {x4 : Int32} {s0 : Int32} {μ μ' : Mem} {x : Int32} (h : ((s0 = 0 → X9_cut_at105 d μ x μ') ∧ (¬ s0 = 0 → ((x4 = 0 → X9_cut_at101 d μ x μ') ∧ (¬ x4 = 0 → ((x3 = 0 → X9_cut_at105 d μ x μ') ∧ (¬ x3 = 0 → (∃ (y3 : Int32) (μ1 : Mem), X0_add d x4 μ y3 μ1 ∧ ((y3 = 0 → X9_cut_at105 d μ1 x μ') ∧ (¬ y3 = 0 → X9_cut_at101 d μ1 x μ')))))))))) : X9_cut_at73 d x3 x4 s0 μ x μ' := by
  refine Ev_istore dX9_cut_73 (Nat.le_of_ble_eq_true rfl) (okp_of rfl) ?_
  refine Ev_iload dX9_cut_75 rfl ?_
  refine Ev_if_eq 105 dX9_cut_77 (by decide) (fun q => ?_) (fun q => ?_)
  · have h := h.1 q
    refine Ev_weak ?_ h
    exact And.intro rfl (And.intro trivial (And.intro trivial (And.intro trivial (And.intro trivial (And.intro trivial (trivial))))))
  · have h := h.2 q
    refine Ev_iload dX9_cut_80 rfl ?_
    refine Ev_if_eq 101 dX9_cut_82 (by decide) (fun q => ?_) (fun q => ?_)
    · have h := h.1 q
      refine Ev_weak ?_ h
      exact And.intro rfl (And.intro trivial (And.intro trivial (And.intro trivial (And.intro trivial (And.intro trivial (trivial))))))
    · have h := h.2 q
      refine Ev_iload_n dX9_cut_85 rfl ?_
      refine Ev_if_eq 105 dX9_cut_86 (by decide) (fun q => ?_) (fun q => ?_)
      · have h := h.1 q
        refine Ev_weak ?_ h
        exact And.intro rfl (And.intro trivial (And.intro trivial (And.intro trivial (And.intro trivial (And.intro trivial (trivial))))))
      · have h := h.2 q
        refine Ev_aload_n dX9_cut_89 rfl ?_
        refine Ev_getF 0 0 203 flX9_78 rfl dX9_cut_90 ?_
        refine Ev_iload dX9_cut_93 rfl ?_
        obtain ⟨y3, μ1, hM2, h⟩ := h
        refine Ev_callV [_] mlX9_269 rfl rfl (Nat.le_of_ble_eq_true rfl) dX9_cut_95 hM2 ?_
        refine Ev_if_eq 105 dX9_cut_98 (by decide) (fun q => ?_) (fun q => ?_)
        · have h := h.1 q
          refine Ev_weak ?_ h
          exact And.intro rfl (And.intro trivial (And.intro trivial (And.intro trivial (And.intro trivial (And.intro trivial (trivial))))))
        · have h := h.2 q
          refine Ev_weak ?_ h
          exact And.intro rfl (And.intro trivial (And.intro trivial (And.intro trivial (And.intro trivial (And.intro trivial (trivial))))))
set_option maxHeartbeats 4000000 in
set_option maxRecDepth 100000 in
theorem X9_cut_at105_ok {d : Nat}  {μ μ' : Mem} {x : Int32} (h : (((0 : Int32) = 0 → (x = (-1) ∧ μ' = μ)) ∧ (¬ (0 : Int32) = 0 → (∃ (y3 : Int32) (μ1 : Mem), X0_leastLength d μ y3 μ1 ∧ (x = y3 ∧ μ' = μ1))))) : X9_cut_at105 d μ x μ' := by
  refine Ev_iconst 0 dX9_cut_105 (by decide) ?_
  refine Ev_istore dX9_cut_106 (Nat.le_of_ble_eq_true rfl) (okp_of rfl) ?_
  refine Ev_iload dX9_cut_108 rfl ?_
  refine Ev_if_eq 123 dX9_cut_110 (by decide) (fun q => ?_) (fun q => ?_)
  · have h := h.1 q
    refine Ev_iconst (-1) dX9_cut_123 (by decide) ?_
    obtain ⟨rfl, rfl⟩ := h
    exact R_i rfl dX9_cut_124 rfl
  · have h := h.2 q
    refine Ev_aload_n dX9_cut_113 rfl ?_
    refine Ev_getF 0 0 203 flX9_78 rfl dX9_cut_114 ?_
    obtain ⟨y3, μ1, hM2, h⟩ := h
    refine Ev_callV [] mlX9_272 rfl rfl (Nat.le_of_ble_eq_true rfl) dX9_cut_117 hM2 ?_
    refine Ev_goto 124 dX9_cut_120 (by decide) ?_
    obtain ⟨rfl, rfl⟩ := h
    exact R_i rfl dX9_cut_124 rfl
set_option maxHeartbeats 4000000 in
set_option maxRecDepth 100000 in
theorem X9_cut_at101_ok {d : Nat}  {μ μ' : Mem} {x : Int32} (h : (((1 : Int32) = 0 → (x = (-1) ∧ μ' = μ)) ∧ (¬ (1 : Int32) = 0 → (∃ (y3 : Int32) (μ1 : Mem), X0_leastLength d μ y3 μ1 ∧ (x = y3 ∧ μ' = μ1))))) : X9_cut_at101 d μ x μ' := by
  refine Ev_iconst 1 dX9_cut_101 (by decide) ?_
  refine Ev_goto 106 dX9_cut_102 (by decide) ?_
  refine Ev_istore dX9_cut_106 (Nat.le_of_ble_eq_true rfl) (okp_of rfl) ?_
  refine Ev_iload dX9_cut_108 rfl ?_
  refine Ev_if_eq 123 dX9_cut_110 (by decide) (fun q => ?_) (fun q => ?_)
  · have h := h.1 q
    refine Ev_iconst (-1) dX9_cut_123 (by decide) ?_
    obtain ⟨rfl, rfl⟩ := h
    exact R_i rfl dX9_cut_124 rfl
  · have h := h.2 q
    refine Ev_aload_n dX9_cut_113 rfl ?_
    refine Ev_getF 0 0 203 flX9_78 rfl dX9_cut_114 ?_
    obtain ⟨y3, μ1, hM2, h⟩ := h
    refine Ev_callV [] mlX9_272 rfl rfl (Nat.le_of_ble_eq_true rfl) dX9_cut_117 hM2 ?_
    refine Ev_goto 124 dX9_cut_120 (by decide) ?_
    obtain ⟨rfl, rfl⟩ := h
    exact R_i rfl dX9_cut_124 rfl
set_option maxHeartbeats 4000000 in
set_option maxRecDepth 100000 in
theorem X9_days_ok {d : Nat} {x1 : Int32} {μ μ' : Mem} {x : Int32} (h : ((x1 < 0 → (x = (-1) ∧ μ' = μ)) ∧ (¬ x1 < 0 → ((x1 ≤ 30 → ((x1 ≤ 0 → (x = μ.1 13 0 ∧ μ' = μ)) ∧ (¬ x1 ≤ 0 → (∃ (μ1 : Mem), X2_remember d 13 μ μ1 ∧ (∃ (μ3 : Mem), X7_passDays d 13 x1 (μ1.1 (μ1.2.2 0 4) 6) μ1 μ3 ∧ (x = μ3.1 13 0 ∧ μ' = μ3)))))) ∧ (¬ x1 ≤ 30 → (x = (-1) ∧ μ' = μ)))))) : X9_days (d + 1) x1 μ x μ' := by
  refine Me_of [some (vr 9 0 0), some (vi x1)] rfl (Nat.le_of_ble_eq_true rfl) (by decide) ?_
  refine Ev_iload_n dX9_days_0 rfl ?_
  refine Ev_if_lt 10 dX9_days_1 (by decide) (fun q => ?_) (fun q => ?_)
  · have h := h.1 q
    refine Ev_iconst (-1) dX9_days_10 (by decide) ?_
    obtain ⟨rfl, rfl⟩ := h
    exact R_i rfl dX9_days_11 rfl
  · have h := h.2 q
    refine Ev_iload_n dX9_days_4 rfl ?_
    refine Ev_bipush 30 dX9_days_5 (by decide) ?_
    refine Ev_icmp_le 12 dX9_days_7 (by decide) (fun q => ?_) (fun q => ?_)
    · have h := h.1 q
      refine Ev_iload_n dX9_days_12 rfl ?_
      refine Ev_if_le 46 dX9_days_13 (by decide) (fun q => ?_) (fun q => ?_)
      · have h := h.1 q
        refine Ev_aload_n dX9_days_46 rfl ?_
        refine Ev_getF 5 0 13 flX9_46 rfl dX9_days_47 ?_
        refine Ev_getI flX9_178 rfl dX9_days_50 ?_
        obtain ⟨rfl, rfl⟩ := h
        exact R_i rfl dX9_days_53 rfl
      · have h := h.2 q
        refine Ev_aload_n dX9_days_16 rfl ?_
        refine Ev_getF 2 0 23 flX9_56 rfl dX9_days_17 ?_
        refine Ev_aload_n dX9_days_20 rfl ?_
        refine Ev_getF 5 0 13 flX9_46 rfl dX9_days_21 ?_
        obtain ⟨μ1, hM2, h⟩ := h
        refine Ev_callV [_] mlX9_209 rfl rfl (Nat.le_of_ble_eq_true rfl) dX9_days_24 hM2 ?_
        refine Ev_aload_n dX9_days_27 rfl ?_
        refine Ev_getF 7 0 9 flX9_39 rfl dX9_days_28 ?_
        refine Ev_aload_n dX9_days_31 rfl ?_
        refine Ev_getF 5 0 13 flX9_46 rfl dX9_days_32 ?_
        refine Ev_iload_n dX9_days_35 rfl ?_
        refine Ev_aload_n dX9_days_36 rfl ?_
        refine Ev_getP flX9_30 rfl dX9_days_37 ?_
        refine Ev_getI flX9_228 rfl dX9_days_40 ?_
        obtain ⟨μ3, hM4, h⟩ := h
        refine Ev_callV [_, _, _] mlX9_231 rfl rfl (Nat.le_of_ble_eq_true rfl) dX9_days_43 hM4 ?_
        refine Ev_aload_n dX9_days_46 rfl ?_
        refine Ev_getF 5 0 13 flX9_46 rfl dX9_days_47 ?_
        refine Ev_getI flX9_178 rfl dX9_days_50 ?_
        obtain ⟨rfl, rfl⟩ := h
        exact R_i rfl dX9_days_53 rfl
    · have h := h.2 q
      refine Ev_iconst (-1) dX9_days_10 (by decide) ?_
      obtain ⟨rfl, rfl⟩ := h
      exact R_i rfl dX9_days_11 rfl
set_option maxHeartbeats 4000000 in
set_option maxRecDepth 100000 in
theorem X9_dry_ok {d : Nat} {x1 : Int32} {μ μ' : Mem} {x : Int32} (h : (∃ (y3 : Int32) (μ1 : Mem), X9_isAhead d x1 μ y3 μ1 ∧ ((y3 ≠ 0 → (∃ (y6 : Nat) (μ4 : Mem), X5_copy d 18 13 μ1 y6 μ4 ∧ (∃ (μ7 : Mem), X7_passDays d y6 x1 (μ4.1 (μ4.2.2 0 4) 6) μ4 μ7 ∧ X9_dry_at39 d 0 0 μ7 x μ'))) ∧ (y3 = 0 → (x = (-1) ∧ μ' = μ1))))) : X9_dry (d + 1) x1 μ x μ' := by
  refine Me_of [some (vr 9 0 0), some (vi x1), none, none, none] rfl (Nat.le_of_ble_eq_true rfl) (by decide) ?_
  refine Ev_iload_n dX9_dry_0 rfl ?_
  obtain ⟨y3, μ1, hM2, h⟩ := h
  refine Ev_callS [_] mlX9_298 rfl rfl (Nat.le_of_ble_eq_true rfl) dX9_dry_1 hM2 ?_
  refine Ev_if_ne 9 dX9_dry_4 (by decide) (fun q => ?_) (fun q => ?_)
  · have h := h.1 q
    refine Ev_aload_n dX9_dry_9 rfl ?_
    refine Ev_getF 7 0 9 flX9_39 rfl dX9_dry_10 ?_
    refine Ev_aload_n dX9_dry_13 rfl ?_
    refine Ev_getF 5 0 18 flX9_50 rfl dX9_dry_14 ?_
    refine Ev_aload_n dX9_dry_17 rfl ?_
    refine Ev_getF 5 0 13 flX9_46 rfl dX9_dry_18 ?_
    obtain ⟨y6, μ4, hM5, h⟩ := h
    refine Ev_callV [_] mlX9_301 rfl rfl (Nat.le_of_ble_eq_true rfl) dX9_dry_21 hM5 ?_
    refine Ev_iload_n dX9_dry_24 rfl ?_
    refine Ev_aload_n dX9_dry_25 rfl ?_
    refine Ev_getP flX9_30 rfl dX9_dry_26 ?_
    refine Ev_getI flX9_228 rfl dX9_dry_29 ?_
    obtain ⟨μ7, hM8, h⟩ := h
    refine Ev_callV [_, _, _] mlX9_231 rfl rfl (Nat.le_of_ble_eq_true rfl) dX9_dry_32 hM8 ?_
    refine Ev_iconst 0 dX9_dry_35 (by decide) ?_
    refine Ev_istore_n dX9_dry_36 (Nat.le_of_ble_eq_true rfl) (okp_of rfl) ?_
    refine Ev_iconst 0 dX9_dry_37 (by decide) ?_
    refine Ev_istore_n dX9_dry_38 (Nat.le_of_ble_eq_true rfl) (okp_of rfl) ?_
    refine Ev_weak ?_ h
    exact And.intro rfl (And.intro trivial (And.intro rfl (And.intro rfl (And.intro trivial (trivial)))))
  · have h := h.2 q
    refine Ev_iconst (-1) dX9_dry_7 (by decide) ?_
    obtain ⟨rfl, rfl⟩ := h
    exact R_i rfl dX9_dry_8 rfl
set_option maxHeartbeats 4000000 in
set_option maxRecDepth 100000 in
theorem X9_dry_at39_ok {d : Nat} {x2 : Int32} {x3 : Int32} {μ μ' : Mem} {x : Int32} (h : (((μ.1 (μ.2.2 0 4) 1) ≤ x3 → (x = x2 ∧ μ' = μ)) ∧ (¬ (μ.1 (μ.2.2 0 4) 1) ≤ x3 → X9_dry_at53 d x2 x3 0 μ x μ'))) : X9_dry_at39 d x2 x3 μ x μ' := by
  refine Ev_iload_n dX9_dry_39 rfl ?_
  refine Ev_aload_n dX9_dry_40 rfl ?_
  refine Ev_getP flX9_30 rfl dX9_dry_41 ?_
  refine Ev_getI flX9_169 rfl dX9_dry_44 ?_
  refine Ev_icmp_ge 93 dX9_dry_47 (by decide) (fun q => ?_) (fun q => ?_)
  · have h := h.1 q
    refine Ev_iload_n dX9_dry_93 rfl ?_
    obtain ⟨rfl, rfl⟩ := h
    exact R_i rfl dX9_dry_94 rfl
  · have h := h.2 q
    refine Ev_iconst 0 dX9_dry_50 (by decide) ?_
    refine Ev_istore dX9_dry_51 (Nat.le_of_ble_eq_true rfl) (okp_of rfl) ?_
    exact h
set_option maxHeartbeats 4000000 in
set_option maxRecDepth 100000 in
theorem X9_dry_at53_ok {d : Nat} {x2 : Int32} {x3 : Int32} {x4 : Int32} {μ μ' : Mem} {x : Int32} (h : (((μ.1 (μ.2.2 0 4) 0) ≤ x4 → X9_dry_at39 d x2 (x3 + 1) μ x μ') ∧ (¬ (μ.1 (μ.2.2 0 4) 0) ≤ x4 → (∃ (y3 : Int32) (μ1 : Mem), X5_waterAt d 18 x4 x3 μ y3 μ1 ∧ ((y3 ≠ 0 → X9_dry_at53 d x2 x3 (x4 + 1) μ1 x μ') ∧ (y3 = 0 → X9_dry_at53 d (x2 + 1) x3 (x4 + 1) μ1 x μ')))))) : X9_dry_at53 d x2 x3 x4 μ x μ' := by
  refine Ev_iload dX9_dry_53 rfl ?_
  refine Ev_aload_n dX9_dry_55 rfl ?_
  refine Ev_getP flX9_30 rfl dX9_dry_56 ?_
  refine Ev_getI flX9_166 rfl dX9_dry_59 ?_
  refine Ev_icmp_ge 87 dX9_dry_62 (by decide) (fun q => ?_) (fun q => ?_)
  · have h := h.1 q
    refine Ev_iinc (x3 + 1) dX9_dry_87 rfl rfl (okp_of rfl) ?_
    refine Ev_goto 39 dX9_dry_90 (by decide) ?_
    refine Ev_weak ?_ h
    exact And.intro rfl (And.intro trivial (And.intro rfl (And.intro rfl (And.intro trivial (trivial)))))
  · have h := h.2 q
    refine Ev_aload_n dX9_dry_65 rfl ?_
    refine Ev_getF 5 0 18 flX9_50 rfl dX9_dry_66 ?_
    refine Ev_iload dX9_dry_69 rfl ?_
    refine Ev_iload_n dX9_dry_71 rfl ?_
    obtain ⟨y3, μ1, hM2, h⟩ := h
    refine Ev_callV [_, _] mlX9_115 rfl rfl (Nat.le_of_ble_eq_true rfl) dX9_dry_72 hM2 ?_
    refine Ev_if_ne 81 dX9_dry_75 (by decide) (fun q => ?_) (fun q => ?_)
    · have h := h.1 q
      refine Ev_iinc (x4 + 1) dX9_dry_81 rfl rfl (okp_of rfl) ?_
      refine Ev_goto 53 dX9_dry_84 (by decide) ?_
      exact h
    · have h := h.2 q
      refine Ev_iinc (x2 + 1) dX9_dry_78 rfl rfl (okp_of rfl) ?_
      refine Ev_iinc (x4 + 1) dX9_dry_81 rfl rfl (okp_of rfl) ?_
      refine Ev_goto 53 dX9_dry_84 (by decide) ?_
      exact h
set_option maxHeartbeats 4000000 in
set_option maxRecDepth 100000 in
theorem X9_emptyBy_ok {d : Nat}  {μ μ' : Mem} {x : Int32} (h : (∃ (y3 : Nat) (μ1 : Mem), X5_copy d 18 13 μ y3 μ1 ∧ X9_emptyBy_at14 d 0 μ1 x μ')) : X9_emptyBy (d + 1) μ x μ' := by
  refine Me_of [some (vr 9 0 0), none] rfl (Nat.le_of_ble_eq_true rfl) (by decide) ?_
  refine Ev_aload_n dX9_emptyBy_0 rfl ?_
  refine Ev_getF 5 0 18 flX9_50 rfl dX9_emptyBy_1 ?_
  refine Ev_aload_n dX9_emptyBy_4 rfl ?_
  refine Ev_getF 5 0 13 flX9_46 rfl dX9_emptyBy_5 ?_
  obtain ⟨y3, μ1, hM2, h⟩ := h
  refine Ev_callV [_] mlX9_301 rfl rfl (Nat.le_of_ble_eq_true rfl) dX9_emptyBy_8 hM2 ?_
  refine Ev_pop dX9_emptyBy_11 (fun _ z => by cases z) ?_
  refine Ev_iconst 0 dX9_emptyBy_12 (by decide) ?_
  refine Ev_istore_n dX9_emptyBy_13 (Nat.le_of_ble_eq_true rfl) (okp_of rfl) ?_
  exact h
set_option maxHeartbeats 4000000 in
set_option maxRecDepth 100000 in
theorem X9_emptyBy_at14_ok {d : Nat} {x1 : Int32} {μ μ' : Mem} {x : Int32} (h : ((200 < x1 → (x = (-2) ∧ μ' = μ)) ∧ (¬ 200 < x1 → (((μ.1 18 1) ≠ 0 → (∃ (μ1 : Mem), X7_passStoreDay d 18 μ μ1 ∧ X9_emptyBy_at14 d (x1 + 1) μ1 x μ')) ∧ ((μ.1 18 1) = 0 → (x = x1 ∧ μ' = μ)))))) : X9_emptyBy_at14 d x1 μ x μ' := by
  refine Ev_iload_n dX9_emptyBy_14 rfl ?_
  refine Ev_sipush 200 dX9_emptyBy_15 (by decide) ?_
  refine Ev_icmp_gt 50 dX9_emptyBy_18 (by decide) (fun q => ?_) (fun q => ?_)
  · have h := h.1 q
    refine Ev_bipush (-2) dX9_emptyBy_50 (by decide) ?_
    obtain ⟨rfl, rfl⟩ := h
    exact R_i rfl dX9_emptyBy_52 rfl
  · have h := h.2 q
    refine Ev_aload_n dX9_emptyBy_21 rfl ?_
    refine Ev_getF 5 0 18 flX9_50 rfl dX9_emptyBy_22 ?_
    refine Ev_getI flX9_181 rfl dX9_emptyBy_25 ?_
    refine Ev_if_ne 33 dX9_emptyBy_28 (by decide) (fun q => ?_) (fun q => ?_)
    · have h := h.1 q
      refine Ev_aload_n dX9_emptyBy_33 rfl ?_
      refine Ev_getF 7 0 9 flX9_39 rfl dX9_emptyBy_34 ?_
      refine Ev_aload_n dX9_emptyBy_37 rfl ?_
      refine Ev_getF 5 0 18 flX9_50 rfl dX9_emptyBy_38 ?_
      obtain ⟨μ1, hM2, h⟩ := h
      refine Ev_callV [_] mlX9_305 rfl rfl (Nat.le_of_ble_eq_true rfl) dX9_emptyBy_41 hM2 ?_
      refine Ev_iinc (x1 + 1) dX9_emptyBy_44 rfl rfl (okp_of rfl) ?_
      refine Ev_goto 14 dX9_emptyBy_47 (by decide) ?_
      exact h
    · have h := h.2 q
      refine Ev_iload_n dX9_emptyBy_31 rfl ?_
      obtain ⟨rfl, rfl⟩ := h
      exact R_i rfl dX9_emptyBy_32 rfl
set_option maxHeartbeats 4000000 in
set_option maxRecDepth 100000 in
theorem X9_fall_ok {d : Nat} {x1 : Int32} {x2 : Int32} {x3 : Int32} {x4 : Int32} {x5 : Int32} {μ μ' : Mem} {x : Int32} (h : (∃ (y3 : Int32) (μ1 : Mem), X9_isPiece d x1 x2 x3 μ y3 μ1 ∧ ((y3 = 0 → (x = (-1) ∧ μ' = μ1)) ∧ (¬ y3 = 0 → (∃ (y6 : Int32) (μ4 : Mem), X3_hasCell d (μ1.2.2 0 4) x4 x5 μ1 y6 μ4 ∧ ((y6 ≠ 0 → (∃ (μ7 : Mem), X2_remember d 13 μ4 μ7 ∧ (∃ (y11 : Int32) (μ9 : Mem), X7_letFall d 13 x1 x2 x3 x4 x5 μ7 y11 μ9 ∧ (x = y11 ∧ μ' = μ9)))) ∧ (y6 = 0 → (x = (-1) ∧ μ' = μ4)))))))) : X9_fall (d + 1) x1 x2 x3 x4 x5 μ x μ' := by
  refine Me_of [some (vr 9 0 0), some (vi x1), some (vi x2), some (vi x3), some (vi x4), some (vi x5)] rfl (Nat.le_of_ble_eq_true rfl) (by decide) ?_
  refine Ev_aload_n dX9_fall_0 rfl ?_
  refine Ev_iload_n dX9_fall_1 rfl ?_
  refine Ev_iload_n dX9_fall_2 rfl ?_
  refine Ev_iload_n dX9_fall_3 rfl ?_
  obtain ⟨y3, μ1, hM2, h⟩ := h
  refine Ev_callV [_, _, _] mlX9_201 rfl rfl (Nat.le_of_ble_eq_true rfl) dX9_fall_4 hM2 ?_
  refine Ev_if_eq 24 dX9_fall_7 (by decide) (fun q => ?_) (fun q => ?_)
  · have h := h.1 q
    refine Ev_iconst (-1) dX9_fall_24 (by decide) ?_
    obtain ⟨rfl, rfl⟩ := h
    exact R_i rfl dX9_fall_25 rfl
  · have h := h.2 q
    refine Ev_aload_n dX9_fall_10 rfl ?_
    refine Ev_getP flX9_30 rfl dX9_fall_11 ?_
    refine Ev_iload dX9_fall_14 rfl ?_
    refine Ev_iload dX9_fall_16 rfl ?_
    obtain ⟨y6, μ4, hM5, h⟩ := h
    refine Ev_callV [_, _] mlX9_107 rfl rfl (Nat.le_of_ble_eq_true rfl) dX9_fall_18 hM5 ?_
    refine Ev_if_ne 26 dX9_fall_21 (by decide) (fun q => ?_) (fun q => ?_)
    · have h := h.1 q
      refine Ev_aload_n dX9_fall_26 rfl ?_
      refine Ev_getF 2 0 23 flX9_56 rfl dX9_fall_27 ?_
      refine Ev_aload_n dX9_fall_30 rfl ?_
      refine Ev_getF 5 0 13 flX9_46 rfl dX9_fall_31 ?_
      obtain ⟨μ7, hM8, h⟩ := h
      refine Ev_callV [_] mlX9_209 rfl rfl (Nat.le_of_ble_eq_true rfl) dX9_fall_34 hM8 ?_
      refine Ev_aload_n dX9_fall_37 rfl ?_
      refine Ev_getF 7 0 9 flX9_39 rfl dX9_fall_38 ?_
      refine Ev_aload_n dX9_fall_41 rfl ?_
      refine Ev_getF 5 0 13 flX9_46 rfl dX9_fall_42 ?_
      refine Ev_iload_n dX9_fall_45 rfl ?_
      refine Ev_iload_n dX9_fall_46 rfl ?_
      refine Ev_iload_n dX9_fall_47 rfl ?_
      refine Ev_iload dX9_fall_48 rfl ?_
      refine Ev_iload dX9_fall_50 rfl ?_
      obtain ⟨y11, μ9, hM10, h⟩ := h
      refine Ev_callV [_, _, _, _, _, _] mlX9_220 rfl rfl (Nat.le_of_ble_eq_true rfl) dX9_fall_52 hM10 ?_
      obtain ⟨rfl, rfl⟩ := h
      exact R_i rfl dX9_fall_55 rfl
    · have h := h.2 q
      refine Ev_iconst (-1) dX9_fall_24 (by decide) ?_
      obtain ⟨rfl, rfl⟩ := h
      exact R_i rfl dX9_fall_25 rfl
set_option maxHeartbeats 4000000 in
set_option maxRecDepth 100000 in
theorem X9_feed_ok {d : Nat} {x1 : Int32} {x2 : Int32} {x3 : Int32} {x4 : Int32} {x5 : Int32} {μ μ' : Mem} {x : Int32} (h : ((((μ.1 0 1) + 20) ≤ 2000 → (∃ (μ1 : Mem), X9_putFour d x1 μ μ1 ∧ (∃ (μ3 : Mem), X9_putFour d x2 μ1 μ3 ∧ (∃ (μ5 : Mem), X9_putFour d x3 μ3 μ5 ∧ (∃ (μ7 : Mem), X9_putFour d x4 μ5 μ7 ∧ (∃ (μ9 : Mem), X9_putFour d x5 μ7 μ9 ∧ (x = μ9.1 0 1 ∧ μ' = μ9))))))) ∧ (¬ ((μ.1 0 1) + 20) ≤ 2000 → (x = (-1) ∧ μ' = μ)))) : X9_feed (d + 1) x1 x2 x3 x4 x5 μ x μ' := by
  refine Me_of [some (vr 9 0 0), some (vi x1), some (vi x2), some (vi x3), some (vi x4), some (vi x5)] rfl (Nat.le_of_ble_eq_true rfl) (by decide) ?_
  refine Ev_aload_n dX9_feed_0 rfl ?_
  refine Ev_getI flX9_13 rfl dX9_feed_1 ?_
  refine Ev_bipush 20 dX9_feed_4 (by decide) ?_
  refine Ev_iadd dX9_feed_6 ?_
  refine Ev_sipush 2000 dX9_feed_7 (by decide) ?_
  refine Ev_icmp_le 15 dX9_feed_10 (by decide) (fun q => ?_) (fun q => ?_)
  · have h := h.1 q
    refine Ev_aload_n dX9_feed_15 rfl ?_
    refine Ev_iload_n dX9_feed_16 rfl ?_
    obtain ⟨μ1, hM2, h⟩ := h
    refine Ev_callV [_] mlX9_89 rfl rfl (Nat.le_of_ble_eq_true rfl) dX9_feed_17 hM2 ?_
    refine Ev_aload_n dX9_feed_20 rfl ?_
    refine Ev_iload_n dX9_feed_21 rfl ?_
    obtain ⟨μ3, hM4, h⟩ := h
    refine Ev_callV [_] mlX9_89 rfl rfl (Nat.le_of_ble_eq_true rfl) dX9_feed_22 hM4 ?_
    refine Ev_aload_n dX9_feed_25 rfl ?_
    refine Ev_iload_n dX9_feed_26 rfl ?_
    obtain ⟨μ5, hM6, h⟩ := h
    refine Ev_callV [_] mlX9_89 rfl rfl (Nat.le_of_ble_eq_true rfl) dX9_feed_27 hM6 ?_
    refine Ev_aload_n dX9_feed_30 rfl ?_
    refine Ev_iload dX9_feed_31 rfl ?_
    obtain ⟨μ7, hM8, h⟩ := h
    refine Ev_callV [_] mlX9_89 rfl rfl (Nat.le_of_ble_eq_true rfl) dX9_feed_33 hM8 ?_
    refine Ev_aload_n dX9_feed_36 rfl ?_
    refine Ev_iload dX9_feed_37 rfl ?_
    obtain ⟨μ9, hM10, h⟩ := h
    refine Ev_callV [_] mlX9_89 rfl rfl (Nat.le_of_ble_eq_true rfl) dX9_feed_39 hM10 ?_
    refine Ev_aload_n dX9_feed_42 rfl ?_
    refine Ev_getI flX9_13 rfl dX9_feed_43 ?_
    obtain ⟨rfl, rfl⟩ := h
    exact R_i rfl dX9_feed_46 rfl
  · have h := h.2 q
    refine Ev_iconst (-1) dX9_feed_13 (by decide) ?_
    obtain ⟨rfl, rfl⟩ := h
    exact R_i rfl dX9_feed_14 rfl
set_option maxHeartbeats 4000000 in
set_option maxRecDepth 100000 in
theorem X9_fell_ok {d : Nat} {x1 : Int32} {x2 : Int32} {x3 : Int32} {x4 : Int32} {μ μ' : Mem} {x : Int32} (h : (∃ (y3 : Int32) (μ1 : Mem), X8_knows d x1 μ y3 μ1 ∧ ((y3 = 0 → (x = (-1) ∧ μ' = μ1)) ∧ (¬ y3 = 0 → (∃ (y6 : Int32) (μ4 : Mem), X9_isSize d x2 x3 μ1 y6 μ4 ∧ ((y6 = 0 → (x = (-1) ∧ μ' = μ4)) ∧ (¬ y6 = 0 → (((-1) ≤ x4 → (∃ (μ7 : Mem), X9_gatherWays d x1 x2 x3 μ4 μ7 ∧ ((x4 ≠ (-1) → (((μ7.1 192 8) ≤ x4 → (x = (-1) ∧ μ' = μ7)) ∧ (¬ (μ7.1 192 8) ≤ x4 → vp_in x4 192 ∧ (x = μ7.1 201 x4.toNatClampNeg ∧ μ' = μ7)))) ∧ (x4 = (-1) → (x = μ7.1 192 8 ∧ μ' = μ7))))) ∧ (¬ (-1) ≤ x4 → (x = (-1) ∧ μ' = μ4)))))))))) : X9_fell (d + 1) x1 x2 x3 x4 μ x μ' := by
  refine Me_of [some (vr 9 0 0), some (vi x1), some (vi x2), some (vi x3), some (vi x4)] rfl (Nat.le_of_ble_eq_true rfl) (by decide) ?_
  refine Ev_aload_n dX9_fell_0 rfl ?_
  refine Ev_getF 8 0 192 flX9_71 rfl dX9_fell_1 ?_
  refine Ev_iload_n dX9_fell_4 rfl ?_
  obtain ⟨y3, μ1, hM2, h⟩ := h
  refine Ev_callV [_] mlX9_310 rfl rfl (Nat.le_of_ble_eq_true rfl) dX9_fell_5 hM2 ?_
  refine Ev_if_eq 25 dX9_fell_8 (by decide) (fun q => ?_) (fun q => ?_)
  · have h := h.1 q
    refine Ev_iconst (-1) dX9_fell_25 (by decide) ?_
    obtain ⟨rfl, rfl⟩ := h
    exact R_i rfl dX9_fell_26 rfl
  · have h := h.2 q
    refine Ev_iload_n dX9_fell_11 rfl ?_
    refine Ev_iload_n dX9_fell_12 rfl ?_
    obtain ⟨y6, μ4, hM5, h⟩ := h
    refine Ev_callS [_, _] mlX9_275 rfl rfl (Nat.le_of_ble_eq_true rfl) dX9_fell_13 hM5 ?_
    refine Ev_if_eq 25 dX9_fell_16 (by decide) (fun q => ?_) (fun q => ?_)
    · have h := h.1 q
      refine Ev_iconst (-1) dX9_fell_25 (by decide) ?_
      obtain ⟨rfl, rfl⟩ := h
      exact R_i rfl dX9_fell_26 rfl
    · have h := h.2 q
      refine Ev_iload dX9_fell_19 rfl ?_
      refine Ev_iconst (-1) dX9_fell_21 (by decide) ?_
      refine Ev_icmp_ge 27 dX9_fell_22 (by decide) (fun q => ?_) (fun q => ?_)
      · have h := h.1 q
        refine Ev_aload_n dX9_fell_27 rfl ?_
        refine Ev_iload_n dX9_fell_28 rfl ?_
        refine Ev_iload_n dX9_fell_29 rfl ?_
        refine Ev_iload_n dX9_fell_30 rfl ?_
        obtain ⟨μ7, hM8, h⟩ := h
        refine Ev_callV [_, _, _] mlX9_313 rfl rfl (Nat.le_of_ble_eq_true rfl) dX9_fell_31 hM8 ?_
        refine Ev_iload dX9_fell_34 rfl ?_
        refine Ev_iconst (-1) dX9_fell_36 (by decide) ?_
        refine Ev_icmp_ne 48 dX9_fell_37 (by decide) (fun q => ?_) (fun q => ?_)
        · have h := h.1 q
          refine Ev_iload dX9_fell_48 rfl ?_
          refine Ev_aload_n dX9_fell_50 rfl ?_
          refine Ev_getF 8 0 192 flX9_71 rfl dX9_fell_51 ?_
          refine Ev_getI flX9_316 rfl dX9_fell_54 ?_
          refine Ev_icmp_ge 73 dX9_fell_57 (by decide) (fun q => ?_) (fun q => ?_)
          · have h := h.1 q
            refine Ev_iconst (-1) dX9_fell_73 (by decide) ?_
            obtain ⟨rfl, rfl⟩ := h
            exact R_i rfl dX9_fell_74 rfl
          · have h := h.2 q
            refine Ev_aload_n dX9_fell_60 rfl ?_
            refine Ev_getF 8 0 192 flX9_71 rfl dX9_fell_61 ?_
            refine Ev_getF 11 192 9 flX9_319 rfl dX9_fell_64 ?_
            refine Ev_iload dX9_fell_67 rfl ?_
            obtain ⟨g, h⟩ := h
            refine Ev_iald g dX9_fell_69 ?_
            refine Ev_goto 74 dX9_fell_70 (by decide) ?_
            obtain ⟨rfl, rfl⟩ := h
            exact R_i rfl dX9_fell_74 rfl
        · have h := h.2 q
          refine Ev_aload_n dX9_fell_40 rfl ?_
          refine Ev_getF 8 0 192 flX9_71 rfl dX9_fell_41 ?_
          refine Ev_getI flX9_316 rfl dX9_fell_44 ?_
          obtain ⟨rfl, rfl⟩ := h
          exact R_i rfl dX9_fell_47 rfl
      · have h := h.2 q
        refine Ev_iconst (-1) dX9_fell_25 (by decide) ?_
        obtain ⟨rfl, rfl⟩ := h
        exact R_i rfl dX9_fell_26 rfl
set_option maxHeartbeats 4000000 in
set_option maxRecDepth 100000 in
theorem X9_field_ok {d : Nat} {x1 : Int32} {x2 : Int32} {μ μ' : Mem} {x : Int32} (h : (∃ (y3 : Int32) (μ1 : Mem), X3_hasField d (μ.2.2 0 4) x1 μ y3 μ1 ∧ ((y3 ≠ 0 → ((x2 = 0 → vp_in x1 6 ∧ (x = μ1.1 (μ1.2.2 0 4 + 2) x1.toNatClampNeg ∧ μ' = μ1)) ∧ (x2 = 1 → (∃ (y6 : Int32) (μ4 : Mem), X5_waterOf d 13 (μ1.2.2 0 4) x1 μ1 y6 μ4 ∧ (x = y6 ∧ μ' = μ4))) ∧ (x2 = 2 → vp_in x1 6 ∧ (x = μ1.1 16 x1.toNatClampNeg ∧ μ' = μ1)) ∧ (x2 = 3 → vp_in x1 6 ∧ (x = μ1.1 17 x1.toNatClampNeg ∧ μ' = μ1)) ∧ (x2 = 4 → (∃ (y9 : Int32) (μ7 : Mem), X3_needOf d (μ1.2.2 0 4) x1 μ1 y9 μ7 ∧ (x = y9 ∧ μ' = μ7))) ∧ (((x2).toInt < 0 ∨ 4 < (x2).toInt) → (x = (-1) ∧ μ' = μ1)))) ∧ (y3 = 0 → (x = (-1) ∧ μ' = μ1))))) : X9_field (d + 1) x1 x2 μ x μ' := by
  refine Me_of [some (vr 9 0 0), some (vi x1), some (vi x2)] rfl (Nat.le_of_ble_eq_true rfl) (by decide) ?_
  refine Ev_aload_n dX9_field_0 rfl ?_
  refine Ev_getP flX9_30 rfl dX9_field_1 ?_
  refine Ev_iload_n dX9_field_4 rfl ?_
  obtain ⟨y3, μ1, hM2, h⟩ := h
  refine Ev_callV [_] mlX9_124 rfl rfl (Nat.le_of_ble_eq_true rfl) dX9_field_5 hM2 ?_
  refine Ev_if_ne 13 dX9_field_8 (by decide) (fun q => ?_) (fun q => ?_)
  · have h := h.1 q
    refine Ev_iload_n dX9_field_13 rfl ?_
    refine Ev_tab 100 dX9_field_14 (by decide) (fun k hk e => ?_) (fun q => ?_)
    · rcases (show k = 0 ∨ k = 1 ∨ k = 2 ∨ k = 3 ∨ k = 4 by omega) with rfl | rfl | rfl | rfl | rfl
      · have h := h.1 (Int32.toInt_inj.mp (e.trans (by decide)))
        refine ⟨_, 48, rfl, by decide, ?_⟩
        refine Ev_aload_n dX9_field_48 rfl ?_
        refine Ev_getP flX9_30 rfl dX9_field_49 ?_
        refine Ev_getF 11 6 2 flX9_128 rfl dX9_field_52 ?_
        refine Ev_iload_n dX9_field_55 rfl ?_
        obtain ⟨g, h⟩ := h
        refine Ev_iald g dX9_field_56 ?_
        obtain ⟨rfl, rfl⟩ := h
        exact R_i rfl dX9_field_57 rfl
      · have h := h.2.1 (Int32.toInt_inj.mp (e.trans (by decide)))
        refine ⟨_, 58, rfl, by decide, ?_⟩
        refine Ev_aload_n dX9_field_58 rfl ?_
        refine Ev_getF 5 0 13 flX9_46 rfl dX9_field_59 ?_
        refine Ev_aload_n dX9_field_62 rfl ?_
        refine Ev_getP flX9_30 rfl dX9_field_63 ?_
        refine Ev_iload_n dX9_field_66 rfl ?_
        obtain ⟨y6, μ4, hM5, h⟩ := h
        refine Ev_callV [_, _] mlX9_131 rfl rfl (Nat.le_of_ble_eq_true rfl) dX9_field_67 hM5 ?_
        obtain ⟨rfl, rfl⟩ := h
        exact R_i rfl dX9_field_70 rfl
      · have h := h.2.2.1 (Int32.toInt_inj.mp (e.trans (by decide)))
        refine ⟨_, 71, rfl, by decide, ?_⟩
        refine Ev_aload_n dX9_field_71 rfl ?_
        refine Ev_getF 5 0 13 flX9_46 rfl dX9_field_72 ?_
        refine Ev_getF 11 6 3 flX9_135 rfl dX9_field_75 ?_
        refine Ev_iload_n dX9_field_78 rfl ?_
        obtain ⟨g, h⟩ := h
        refine Ev_iald g dX9_field_79 ?_
        obtain ⟨rfl, rfl⟩ := h
        exact R_i rfl dX9_field_80 rfl
      · have h := h.2.2.2.1 (Int32.toInt_inj.mp (e.trans (by decide)))
        refine ⟨_, 81, rfl, by decide, ?_⟩
        refine Ev_aload_n dX9_field_81 rfl ?_
        refine Ev_getF 5 0 13 flX9_46 rfl dX9_field_82 ?_
        refine Ev_getF 11 6 4 flX9_138 rfl dX9_field_85 ?_
        refine Ev_iload_n dX9_field_88 rfl ?_
        obtain ⟨g, h⟩ := h
        refine Ev_iald g dX9_field_89 ?_
        obtain ⟨rfl, rfl⟩ := h
        exact R_i rfl dX9_field_90 rfl
      · have h := h.2.2.2.2.1 (Int32.toInt_inj.mp (e.trans (by decide)))
        refine ⟨_, 91, rfl, by decide, ?_⟩
        refine Ev_aload_n dX9_field_91 rfl ?_
        refine Ev_getP flX9_30 rfl dX9_field_92 ?_
        refine Ev_iload_n dX9_field_95 rfl ?_
        obtain ⟨y9, μ7, hM8, h⟩ := h
        refine Ev_callV [_] mlX9_141 rfl rfl (Nat.le_of_ble_eq_true rfl) dX9_field_96 hM8 ?_
        obtain ⟨rfl, rfl⟩ := h
        exact R_i rfl dX9_field_99 rfl
    · have h := h.2.2.2.2.2 q
      refine Ev_iconst (-1) dX9_field_100 (by decide) ?_
      obtain ⟨rfl, rfl⟩ := h
      exact R_i rfl dX9_field_101 rfl
  · have h := h.2 q
    refine Ev_iconst (-1) dX9_field_11 (by decide) ?_
    obtain ⟨rfl, rfl⟩ := h
    exact R_i rfl dX9_field_12 rfl
set_option maxHeartbeats 4000000 in
set_option maxRecDepth 100000 in
theorem X9_forget_ok {d : Nat}  {μ μ' : Mem} {x : Int32} (h : (∃ (μ1 : Mem), X8_clear d μ μ1 ∧ (x = μ.1 192 3 ∧ μ' = μ1))) : X9_forget (d + 1) μ x μ' := by
  refine Me_of [some (vr 9 0 0), none] rfl (Nat.le_of_ble_eq_true rfl) (by decide) ?_
  refine Ev_aload_n dX9_forget_0 rfl ?_
  refine Ev_getF 8 0 192 flX9_71 rfl dX9_forget_1 ?_
  refine Ev_getI flX9_195 rfl dX9_forget_4 ?_
  refine Ev_istore_n dX9_forget_7 (Nat.le_of_ble_eq_true rfl) (okp_of rfl) ?_
  refine Ev_aload_n dX9_forget_8 rfl ?_
  refine Ev_getF 8 0 192 flX9_71 rfl dX9_forget_9 ?_
  obtain ⟨μ1, hM2, h⟩ := h
  refine Ev_callV [] mlX9_106 rfl rfl (Nat.le_of_ble_eq_true rfl) dX9_forget_12 hM2 ?_
  refine Ev_iload_n dX9_forget_15 rfl ?_
  obtain ⟨rfl, rfl⟩ := h
  exact R_i rfl dX9_forget_16 rfl
set_option maxHeartbeats 4000000 in
set_option maxRecDepth 100000 in
theorem X9_gatherWays_ok {d : Nat} {x1 : Int32} {x2 : Int32} {x3 : Int32} {μ μ' : Mem} (h : (∃ (μ1 : Mem), X8_beginWays d x2 x3 μ μ1 ∧ X9_gatherWays_at12 d x1 x2 x3 0 μ1 μ')) : X9_gatherWays (d + 1) x1 x2 x3 μ μ' := by
  refine Me_of [some (vr 9 0 0), some (vi x1), some (vi x2), some (vi x3), none] rfl (Nat.le_of_ble_eq_true rfl) (by decide) ?_
  refine Ev_aload_n dX9_gatherWays_0 rfl ?_
  refine Ev_getF 8 0 192 flX9_71 rfl dX9_gatherWays_1 ?_
  refine Ev_iload_n dX9_gatherWays_4 rfl ?_
  refine Ev_iload_n dX9_gatherWays_5 rfl ?_
  obtain ⟨μ1, hM2, h⟩ := h
  refine Ev_callV [_, _] mlX9_325 rfl rfl (Nat.le_of_ble_eq_true rfl) dX9_gatherWays_6 hM2 ?_
  refine Ev_iconst 0 dX9_gatherWays_9 (by decide) ?_
  refine Ev_istore dX9_gatherWays_10 (Nat.le_of_ble_eq_true rfl) (okp_of rfl) ?_
  exact h
set_option maxHeartbeats 4000000 in
set_option maxRecDepth 100000 in
theorem X9_gatherWays_at12_ok {d : Nat} {x1 : Int32} {x2 : Int32} {x3 : Int32} {x4 : Int32} {μ μ' : Mem} (h : (((μ.1 (μ.2.2 0 4) 3) ≤ x4 → μ' = μ) ∧ (¬ (μ.1 (μ.2.2 0 4) 3) ≤ x4 → vp_in x4 4 ∧ (((μ.1 (μ.2.2 0 4 + 5) x4.toNatClampNeg) < x2 → X9_gatherWays_at12 d x1 x2 x3 (x4 + 1) μ μ') ∧ (¬ (μ.1 (μ.2.2 0 4 + 5) x4.toNatClampNeg) < x2 → (∃ (μ1 : Mem), X9_weaveWhole d x4 x2 x3 μ μ1 ∧ (∃ (μ3 : Mem), X8_keepPiece d x4 μ1 μ3 ∧ (∃ (μ5 : Mem), X8_addWays d x4 x1 (μ3.1 (μ3.2.2 0 4) 0) (μ3.1 (μ3.2.2 0 4) 1) μ3 μ5 ∧ X9_gatherWays_at12 d x1 x2 x3 (x4 + 1) μ5 μ')))))))) : X9_gatherWays_at12 d x1 x2 x3 x4 μ μ' := by
  refine Ev_iload dX9_gatherWays_12 rfl ?_
  refine Ev_aload_n dX9_gatherWays_14 rfl ?_
  refine Ev_getP flX9_30 rfl dX9_gatherWays_15 ?_
  refine Ev_getI flX9_175 rfl dX9_gatherWays_18 ?_
  refine Ev_icmp_ge 92 dX9_gatherWays_21 (by decide) (fun q => ?_) (fun q => ?_)
  · have h := h.1 q
    subst h
    exact R_v rfl dX9_gatherWays_92
  · have h := h.2 q
    refine Ev_iload_n dX9_gatherWays_24 rfl ?_
    refine Ev_aload_n dX9_gatherWays_25 rfl ?_
    refine Ev_getP flX9_30 rfl dX9_gatherWays_26 ?_
    refine Ev_getF 11 4 5 flX9_151 rfl dX9_gatherWays_29 ?_
    refine Ev_iload dX9_gatherWays_32 rfl ?_
    obtain ⟨g, h⟩ := h
    refine Ev_iald g dX9_gatherWays_34 ?_
    refine Ev_icmp_gt 86 dX9_gatherWays_35 (by decide) (fun q => ?_) (fun q => ?_)
    · have h := h.1 q
      refine Ev_iinc (x4 + 1) dX9_gatherWays_86 rfl rfl (okp_of rfl) ?_
      refine Ev_goto 12 dX9_gatherWays_89 (by decide) ?_
      exact h
    · have h := h.2 q
      refine Ev_aload_n dX9_gatherWays_38 rfl ?_
      refine Ev_iload dX9_gatherWays_39 rfl ?_
      refine Ev_iload_n dX9_gatherWays_41 rfl ?_
      refine Ev_iload_n dX9_gatherWays_42 rfl ?_
      obtain ⟨μ1, hM2, h⟩ := h
      refine Ev_callV [_, _, _] mlX9_239 rfl rfl (Nat.le_of_ble_eq_true rfl) dX9_gatherWays_43 hM2 ?_
      refine Ev_aload_n dX9_gatherWays_46 rfl ?_
      refine Ev_getF 8 0 192 flX9_71 rfl dX9_gatherWays_47 ?_
      refine Ev_iload dX9_gatherWays_50 rfl ?_
      refine Ev_aload_n dX9_gatherWays_52 rfl ?_
      refine Ev_getF 7 0 9 flX9_39 rfl dX9_gatherWays_53 ?_
      refine Ev_getF 11 48 3 flX9_329 rfl dX9_gatherWays_56 ?_
      obtain ⟨μ3, hM4, h⟩ := h
      refine Ev_callV [_, _] mlX9_332 rfl rfl (Nat.le_of_ble_eq_true rfl) dX9_gatherWays_59 hM4 ?_
      refine Ev_aload_n dX9_gatherWays_62 rfl ?_
      refine Ev_getF 8 0 192 flX9_71 rfl dX9_gatherWays_63 ?_
      refine Ev_iload dX9_gatherWays_66 rfl ?_
      refine Ev_iload_n dX9_gatherWays_68 rfl ?_
      refine Ev_aload_n dX9_gatherWays_69 rfl ?_
      refine Ev_getP flX9_30 rfl dX9_gatherWays_70 ?_
      refine Ev_getI flX9_166 rfl dX9_gatherWays_73 ?_
      refine Ev_aload_n dX9_gatherWays_76 rfl ?_
      refine Ev_getP flX9_30 rfl dX9_gatherWays_77 ?_
      refine Ev_getI flX9_169 rfl dX9_gatherWays_80 ?_
      obtain ⟨μ5, hM6, h⟩ := h
      refine Ev_callV [_, _, _, _] mlX9_336 rfl rfl (Nat.le_of_ble_eq_true rfl) dX9_gatherWays_83 hM6 ?_
      refine Ev_iinc (x4 + 1) dX9_gatherWays_86 rfl rfl (okp_of rfl) ?_
      refine Ev_goto 12 dX9_gatherWays_89 (by decide) ?_
      exact h
set_option maxHeartbeats 4000000 in
set_option maxRecDepth 100000 in
theorem X9_heldBy_ok {d : Nat} {x1 : Int32} {x2 : Int32} {x3 : Int32} {μ μ' : Mem} {x : Int32} (h : (∃ (μ1 : Mem), X9_weaveWhole d x1 x2 x3 μ μ1 ∧ (x = μ1.1 9 4 ∧ μ' = μ1))) : X9_heldBy (d + 1) x1 x2 x3 μ x μ' := by
  refine Me_of [some (vr 9 0 0), some (vi x1), some (vi x2), some (vi x3)] rfl (Nat.le_of_ble_eq_true rfl) (by decide) ?_
  refine Ev_aload_n dX9_heldBy_0 rfl ?_
  refine Ev_iload_n dX9_heldBy_1 rfl ?_
  refine Ev_iload_n dX9_heldBy_2 rfl ?_
  refine Ev_iload_n dX9_heldBy_3 rfl ?_
  obtain ⟨μ1, hM2, h⟩ := h
  refine Ev_callV [_, _, _] mlX9_239 rfl rfl (Nat.le_of_ble_eq_true rfl) dX9_heldBy_4 hM2 ?_
  refine Ev_aload_n dX9_heldBy_7 rfl ?_
  refine Ev_getF 7 0 9 flX9_39 rfl dX9_heldBy_8 ?_
  refine Ev_getI flX9_245 rfl dX9_heldBy_11 ?_
  obtain ⟨rfl, rfl⟩ := h
  exact R_i rfl dX9_heldBy_14 rfl
set_option maxHeartbeats 4000000 in
set_option maxRecDepth 100000 in
theorem X9_heldSlots_ok {d : Nat}  {μ μ' : Mem} {x : Int32} (h : X9_heldSlots_at4 d 0 0 μ x μ') : X9_heldSlots d μ x μ' := by
  refine Me_of [some (vr 9 0 0), none, none] rfl (Nat.le_of_ble_eq_true rfl) (by decide) ?_
  refine Ev_iconst 0 dX9_heldSlots_0 (by decide) ?_
  refine Ev_istore_n dX9_heldSlots_1 (Nat.le_of_ble_eq_true rfl) (okp_of rfl) ?_
  refine Ev_iconst 0 dX9_heldSlots_2 (by decide) ?_
  refine Ev_istore_n dX9_heldSlots_3 (Nat.le_of_ble_eq_true rfl) (okp_of rfl) ?_
  exact h
set_option maxHeartbeats 4000000 in
set_option maxRecDepth 100000 in
theorem X9_heldSlots_at4_ok {d : Nat} {x1 : Int32} {x2 : Int32} {μ μ' : Mem} {x : Int32} (h : ((3 ≤ x2 → (x = x1 ∧ μ' = μ)) ∧ (¬ 3 ≤ x2 → vp_in x2 3 ∧ (((μ.1 191 x2.toNatClampNeg) = 0 → X9_heldSlots_at4 d x1 (x2 + 1) μ x μ') ∧ (¬ (μ.1 191 x2.toNatClampNeg) = 0 → X9_heldSlots_at4 d (x1 + 1) (x2 + 1) μ x μ'))))) : X9_heldSlots_at4 d x1 x2 μ x μ' := by
  refine Ev_iload_n dX9_heldSlots_4 rfl ?_
  refine Ev_iconst 3 dX9_heldSlots_5 (by decide) ?_
  refine Ev_icmp_ge 27 dX9_heldSlots_6 (by decide) (fun q => ?_) (fun q => ?_)
  · have h := h.1 q
    refine Ev_iload_n dX9_heldSlots_27 rfl ?_
    obtain ⟨rfl, rfl⟩ := h
    exact R_i rfl dX9_heldSlots_28 rfl
  · have h := h.2 q
    refine Ev_aload_n dX9_heldSlots_9 rfl ?_
    refine Ev_getF 14 3 191 flX9_64 rfl dX9_heldSlots_10 ?_
    refine Ev_iload_n dX9_heldSlots_13 rfl ?_
    obtain ⟨g, h⟩ := h
    refine Ev_zald g dX9_heldSlots_14 ?_
    refine Ev_if_eq 21 dX9_heldSlots_15 (by decide) (fun q => ?_) (fun q => ?_)
    · have h := h.1 q
      refine Ev_iinc (x2 + 1) dX9_heldSlots_21 rfl rfl (okp_of rfl) ?_
      refine Ev_goto 4 dX9_heldSlots_24 (by decide) ?_
      exact h
    · have h := h.2 q
      refine Ev_iinc (x1 + 1) dX9_heldSlots_18 rfl rfl (okp_of rfl) ?_
      refine Ev_iinc (x2 + 1) dX9_heldSlots_21 rfl rfl (okp_of rfl) ?_
      refine Ev_goto 4 dX9_heldSlots_24 (by decide) ?_
      exact h
set_option maxHeartbeats 4000000 in
set_option maxRecDepth 100000 in
theorem X9_hold_ok {d : Nat} {x1 : Int32} {μ μ' : Mem} {x : Int32} (h : ((x1 < 0 → (x = 0 ∧ μ' = μ)) ∧ (¬ x1 < 0 → ((x1 < 3 → vp_in x1 3 ∧ (∃ (y3 : Nat) (μ1 : Mem), X5_copy d (176 + 5 * x1.toNatClampNeg) 13 μ y3 μ1 ∧ vp_in x1 3 ∧ (∀ μ4 : Mem, μ4 = sI μ1 191 x1.toNatClampNeg (vp_nar .boolean 1) → (x = 1 ∧ μ' = μ4)))) ∧ (¬ x1 < 3 → (x = 0 ∧ μ' = μ)))))) : X9_hold (d + 1) x1 μ x μ' := by
  refine Me_of [some (vr 9 0 0), some (vi x1)] rfl (Nat.le_of_ble_eq_true rfl) (by decide) ?_
  refine Ev_iload_n dX9_hold_0 rfl ?_
  refine Ev_if_lt 9 dX9_hold_1 (by decide) (fun q => ?_) (fun q => ?_)
  · have h := h.1 q
    refine Ev_iconst 0 dX9_hold_9 (by decide) ?_
    obtain ⟨rfl, rfl⟩ := h
    exact R_i rfl dX9_hold_10 rfl
  · have h := h.2 q
    refine Ev_iload_n dX9_hold_4 rfl ?_
    refine Ev_iconst 3 dX9_hold_5 (by decide) ?_
    refine Ev_icmp_lt 11 dX9_hold_6 (by decide) (fun q => ?_) (fun q => ?_)
    · have h := h.1 q
      refine Ev_aload_n dX9_hold_11 rfl ?_
      refine Ev_getF 15 3 175 flX9_60 rfl dX9_hold_12 ?_
      refine Ev_iload_n dX9_hold_15 rfl ?_
      obtain ⟨g, h⟩ := h
      refine Ev_aald 5 0 5 (by decide) (by decide) rfl g dX9_hold_16 ?_
      refine Ev_aload_n dX9_hold_17 rfl ?_
      refine Ev_getF 5 0 13 flX9_46 rfl dX9_hold_18 ?_
      obtain ⟨y3, μ1, hM2, h⟩ := h
      refine Ev_callV [_] mlX9_301 rfl rfl (Nat.le_of_ble_eq_true rfl) dX9_hold_21 hM2 ?_
      refine Ev_pop dX9_hold_24 (fun _ z => by cases z) ?_
      refine Ev_aload_n dX9_hold_25 rfl ?_
      refine Ev_getF 14 3 191 flX9_64 rfl dX9_hold_26 ?_
      refine Ev_iload_n dX9_hold_29 rfl ?_
      refine Ev_iconst 1 dX9_hold_30 (by decide) ?_
      obtain ⟨g, h⟩ := h
      refine Ev_zast g dX9_hold_31 ?_
      have h := h _ rfl
      refine Ev_iconst 1 dX9_hold_32 (by decide) ?_
      obtain ⟨rfl, rfl⟩ := h
      exact R_i rfl dX9_hold_33 rfl
    · have h := h.2 q
      refine Ev_iconst 0 dX9_hold_9 (by decide) ?_
      obtain ⟨rfl, rfl⟩ := h
      exact R_i rfl dX9_hold_10 rfl
set_option maxHeartbeats 4000000 in
set_option maxRecDepth 100000 in
theorem X9_holds_ok {d : Nat} {x1 : Int32} {x2 : Int32} {x3 : Int32} {x4 : Int32} {μ μ' : Mem} {x : Int32} (h : (∃ (y3 : Int32) (μ1 : Mem), X9_isPiece d x1 x2 x3 μ y3 μ1 ∧ ((y3 ≠ 0 → (∃ (μ4 : Mem), X9_weaveWhole d x1 x2 x3 μ1 μ4 ∧ ((x4 = 0 → (x = μ4.1 9 4 ∧ μ' = μ4)) ∧ (¬ x4 = 0 → (∃ (y8 : Int32) (μ6 : Mem), X7_emptyThreads d x2 x3 μ4 y8 μ6 ∧ (x = y8 ∧ μ' = μ6)))))) ∧ (y3 = 0 → (x = (-1) ∧ μ' = μ1))))) : X9_holds (d + 1) x1 x2 x3 x4 μ x μ' := by
  refine Me_of [some (vr 9 0 0), some (vi x1), some (vi x2), some (vi x3), some (vi x4)] rfl (Nat.le_of_ble_eq_true rfl) (by decide) ?_
  refine Ev_aload_n dX9_holds_0 rfl ?_
  refine Ev_iload_n dX9_holds_1 rfl ?_
  refine Ev_iload_n dX9_holds_2 rfl ?_
  refine Ev_iload_n dX9_holds_3 rfl ?_
  obtain ⟨y3, μ1, hM2, h⟩ := h
  refine Ev_callV [_, _, _] mlX9_201 rfl rfl (Nat.le_of_ble_eq_true rfl) dX9_holds_4 hM2 ?_
  refine Ev_if_ne 12 dX9_holds_7 (by decide) (fun q => ?_) (fun q => ?_)
  · have h := h.1 q
    refine Ev_aload_n dX9_holds_12 rfl ?_
    refine Ev_iload_n dX9_holds_13 rfl ?_
    refine Ev_iload_n dX9_holds_14 rfl ?_
    refine Ev_iload_n dX9_holds_15 rfl ?_
    obtain ⟨μ4, hM5, h⟩ := h
    refine Ev_callV [_, _, _] mlX9_239 rfl rfl (Nat.le_of_ble_eq_true rfl) dX9_holds_16 hM5 ?_
    refine Ev_iload dX9_holds_19 rfl ?_
    refine Ev_if_eq 36 dX9_holds_21 (by decide) (fun q => ?_) (fun q => ?_)
    · have h := h.1 q
      refine Ev_aload_n dX9_holds_36 rfl ?_
      refine Ev_getF 7 0 9 flX9_39 rfl dX9_holds_37 ?_
      refine Ev_getI flX9_245 rfl dX9_holds_40 ?_
      obtain ⟨rfl, rfl⟩ := h
      exact R_i rfl dX9_holds_43 rfl
    · have h := h.2 q
      refine Ev_aload_n dX9_holds_24 rfl ?_
      refine Ev_getF 7 0 9 flX9_39 rfl dX9_holds_25 ?_
      refine Ev_iload_n dX9_holds_28 rfl ?_
      refine Ev_iload_n dX9_holds_29 rfl ?_
      obtain ⟨y8, μ6, hM7, h⟩ := h
      refine Ev_callV [_, _] mlX9_242 rfl rfl (Nat.le_of_ble_eq_true rfl) dX9_holds_30 hM7 ?_
      refine Ev_goto 43 dX9_holds_33 (by decide) ?_
      obtain ⟨rfl, rfl⟩ := h
      exact R_i rfl dX9_holds_43 rfl
  · have h := h.2 q
    refine Ev_iconst (-1) dX9_holds_10 (by decide) ?_
    obtain ⟨rfl, rfl⟩ := h
    exact R_i rfl dX9_holds_11 rfl
set_option maxHeartbeats 4000000 in
set_option maxRecDepth 100000 in
theorem X9_isAhead_ok {d : Nat} {x0 : Int32} {μ μ' : Mem} {x : Int32} (h : ((x0 < 0 → (x = 0 ∧ μ' = μ)) ∧ (¬ x0 < 0 → ((60 < x0 → (x = 0 ∧ μ' = μ)) ∧ (¬ 60 < x0 → (x = 1 ∧ μ' = μ)))))) : X9_isAhead d x0 μ x μ' := by
  refine Me_of [some (vi x0)] rfl (Nat.le_of_ble_eq_true rfl) (by decide) ?_
  refine Ev_iload_n dX9_isAhead_0 rfl ?_
  refine Ev_if_lt 14 dX9_isAhead_1 (by decide) (fun q => ?_) (fun q => ?_)
  · have h := h.1 q
    refine Ev_iconst 0 dX9_isAhead_14 (by decide) ?_
    obtain ⟨rfl, rfl⟩ := h
    exact R_i rfl dX9_isAhead_15 rfl
  · have h := h.2 q
    refine Ev_iload_n dX9_isAhead_4 rfl ?_
    refine Ev_bipush 60 dX9_isAhead_5 (by decide) ?_
    refine Ev_icmp_gt 14 dX9_isAhead_7 (by decide) (fun q => ?_) (fun q => ?_)
    · have h := h.1 q
      refine Ev_iconst 0 dX9_isAhead_14 (by decide) ?_
      obtain ⟨rfl, rfl⟩ := h
      exact R_i rfl dX9_isAhead_15 rfl
    · have h := h.2 q
      refine Ev_iconst 1 dX9_isAhead_10 (by decide) ?_
      refine Ev_goto 15 dX9_isAhead_11 (by decide) ?_
      obtain ⟨rfl, rfl⟩ := h
      exact R_i rfl dX9_isAhead_15 rfl
set_option maxHeartbeats 4000000 in
set_option maxRecDepth 100000 in
theorem X9_isPiece_ok {d : Nat} {x1 : Int32} {x2 : Int32} {x3 : Int32} {μ μ' : Mem} {x : Int32} (h : (∃ (y3 : Int32) (μ1 : Mem), X3_hasLoom d (μ.2.2 0 4) x1 μ y3 μ1 ∧ ((y3 = 0 → (x = 0 ∧ μ' = μ1)) ∧ (¬ y3 = 0 → ((x2 < 1 → (x = 0 ∧ μ' = μ1)) ∧ (¬ x2 < 1 → vp_in x1 4 ∧ (((μ1.1 (μ1.2.2 0 4 + 5) x1.toNatClampNeg) < x2 → (x = 0 ∧ μ' = μ1)) ∧ (¬ (μ1.1 (μ1.2.2 0 4 + 5) x1.toNatClampNeg) < x2 → ((x3 < 1 → (x = 0 ∧ μ' = μ1)) ∧ (¬ x3 < 1 → ((6 < x3 → (x = 0 ∧ μ' = μ1)) ∧ (¬ 6 < x3 → (x = 1 ∧ μ' = μ1))))))))))))) : X9_isPiece (d + 1) x1 x2 x3 μ x μ' := by
  refine Me_of [some (vr 9 0 0), some (vi x1), some (vi x2), some (vi x3)] rfl (Nat.le_of_ble_eq_true rfl) (by decide) ?_
  refine Ev_aload_n dX9_isPiece_0 rfl ?_
  refine Ev_getP flX9_30 rfl dX9_isPiece_1 ?_
  refine Ev_iload_n dX9_isPiece_4 rfl ?_
  obtain ⟨y3, μ1, hM2, h⟩ := h
  refine Ev_callV [_] mlX9_145 rfl rfl (Nat.le_of_ble_eq_true rfl) dX9_isPiece_5 hM2 ?_
  refine Ev_if_eq 44 dX9_isPiece_8 (by decide) (fun q => ?_) (fun q => ?_)
  · have h := h.1 q
    refine Ev_iconst 0 dX9_isPiece_44 (by decide) ?_
    obtain ⟨rfl, rfl⟩ := h
    exact R_i rfl dX9_isPiece_45 rfl
  · have h := h.2 q
    refine Ev_iload_n dX9_isPiece_11 rfl ?_
    refine Ev_iconst 1 dX9_isPiece_12 (by decide) ?_
    refine Ev_icmp_lt 44 dX9_isPiece_13 (by decide) (fun q => ?_) (fun q => ?_)
    · have h := h.1 q
      refine Ev_iconst 0 dX9_isPiece_44 (by decide) ?_
      obtain ⟨rfl, rfl⟩ := h
      exact R_i rfl dX9_isPiece_45 rfl
    · have h := h.2 q
      refine Ev_iload_n dX9_isPiece_16 rfl ?_
      refine Ev_aload_n dX9_isPiece_17 rfl ?_
      refine Ev_getP flX9_30 rfl dX9_isPiece_18 ?_
      refine Ev_getF 11 4 5 flX9_151 rfl dX9_isPiece_21 ?_
      refine Ev_iload_n dX9_isPiece_24 rfl ?_
      obtain ⟨g, h⟩ := h
      refine Ev_iald g dX9_isPiece_25 ?_
      refine Ev_icmp_gt 44 dX9_isPiece_26 (by decide) (fun q => ?_) (fun q => ?_)
      · have h := h.1 q
        refine Ev_iconst 0 dX9_isPiece_44 (by decide) ?_
        obtain ⟨rfl, rfl⟩ := h
        exact R_i rfl dX9_isPiece_45 rfl
      · have h := h.2 q
        refine Ev_iload_n dX9_isPiece_29 rfl ?_
        refine Ev_iconst 1 dX9_isPiece_30 (by decide) ?_
        refine Ev_icmp_lt 44 dX9_isPiece_31 (by decide) (fun q => ?_) (fun q => ?_)
        · have h := h.1 q
          refine Ev_iconst 0 dX9_isPiece_44 (by decide) ?_
          obtain ⟨rfl, rfl⟩ := h
          exact R_i rfl dX9_isPiece_45 rfl
        · have h := h.2 q
          refine Ev_iload_n dX9_isPiece_34 rfl ?_
          refine Ev_bipush 6 dX9_isPiece_35 (by decide) ?_
          refine Ev_icmp_gt 44 dX9_isPiece_37 (by decide) (fun q => ?_) (fun q => ?_)
          · have h := h.1 q
            refine Ev_iconst 0 dX9_isPiece_44 (by decide) ?_
            obtain ⟨rfl, rfl⟩ := h
            exact R_i rfl dX9_isPiece_45 rfl
          · have h := h.2 q
            refine Ev_iconst 1 dX9_isPiece_40 (by decide) ?_
            refine Ev_goto 45 dX9_isPiece_41 (by decide) ?_
            obtain ⟨rfl, rfl⟩ := h
            exact R_i rfl dX9_isPiece_45 rfl
set_option maxHeartbeats 4000000 in
set_option maxRecDepth 100000 in
theorem X9_isSize_ok {d : Nat} {x0 : Int32} {x1 : Int32} {μ μ' : Mem} {x : Int32} (h : ((x0 < 1 → (x = 0 ∧ μ' = μ)) ∧ (¬ x0 < 1 → ((8 < x0 → (x = 0 ∧ μ' = μ)) ∧ (¬ 8 < x0 → ((x1 < 1 → (x = 0 ∧ μ' = μ)) ∧ (¬ x1 < 1 → ((6 < x1 → (x = 0 ∧ μ' = μ)) ∧ (¬ 6 < x1 → (x = 1 ∧ μ' = μ)))))))))) : X9_isSize d x0 x1 μ x μ' := by
  refine Me_of [some (vi x0), some (vi x1)] rfl (Nat.le_of_ble_eq_true rfl) (by decide) ?_
  refine Ev_iload_n dX9_isSize_0 rfl ?_
  refine Ev_iconst 1 dX9_isSize_1 (by decide) ?_
  refine Ev_icmp_lt 26 dX9_isSize_2 (by decide) (fun q => ?_) (fun q => ?_)
  · have h := h.1 q
    refine Ev_iconst 0 dX9_isSize_26 (by decide) ?_
    obtain ⟨rfl, rfl⟩ := h
    exact R_i rfl dX9_isSize_27 rfl
  · have h := h.2 q
    refine Ev_iload_n dX9_isSize_5 rfl ?_
    refine Ev_bipush 8 dX9_isSize_6 (by decide) ?_
    refine Ev_icmp_gt 26 dX9_isSize_8 (by decide) (fun q => ?_) (fun q => ?_)
    · have h := h.1 q
      refine Ev_iconst 0 dX9_isSize_26 (by decide) ?_
      obtain ⟨rfl, rfl⟩ := h
      exact R_i rfl dX9_isSize_27 rfl
    · have h := h.2 q
      refine Ev_iload_n dX9_isSize_11 rfl ?_
      refine Ev_iconst 1 dX9_isSize_12 (by decide) ?_
      refine Ev_icmp_lt 26 dX9_isSize_13 (by decide) (fun q => ?_) (fun q => ?_)
      · have h := h.1 q
        refine Ev_iconst 0 dX9_isSize_26 (by decide) ?_
        obtain ⟨rfl, rfl⟩ := h
        exact R_i rfl dX9_isSize_27 rfl
      · have h := h.2 q
        refine Ev_iload_n dX9_isSize_16 rfl ?_
        refine Ev_bipush 6 dX9_isSize_17 (by decide) ?_
        refine Ev_icmp_gt 26 dX9_isSize_19 (by decide) (fun q => ?_) (fun q => ?_)
        · have h := h.1 q
          refine Ev_iconst 0 dX9_isSize_26 (by decide) ?_
          obtain ⟨rfl, rfl⟩ := h
          exact R_i rfl dX9_isSize_27 rfl
        · have h := h.2 q
          refine Ev_iconst 1 dX9_isSize_22 (by decide) ?_
          refine Ev_goto 27 dX9_isSize_23 (by decide) ?_
          obtain ⟨rfl, rfl⟩ := h
          exact R_i rfl dX9_isSize_27 rfl
set_option maxHeartbeats 4000000 in
set_option maxRecDepth 100000 in
theorem X9_look_ok {d : Nat} {x1 : Int32} {x2 : Int32} {x3 : Int32} {μ μ' : Mem} {x : Int32} (h : (∃ (y3 : Int32) (μ1 : Mem), X8_knows d x1 μ y3 μ1 ∧ ((y3 = 0 → (x = (-1) ∧ μ' = μ1)) ∧ (¬ y3 = 0 → (∃ (y6 : Int32) (μ4 : Mem), X9_isSize d x2 x3 μ1 y6 μ4 ∧ ((y6 ≠ 0 → (∃ (y9 : Int32) (μ7 : Mem), X3_hasCell d (μ4.2.2 0 4) 0 0 μ4 y9 μ7 ∧ ((y9 ≠ 0 → (∃ (μ10 : Mem), X9_gatherWays d x1 x2 x3 μ7 μ10 ∧ (∃ (y14 : Int32) (μ12 : Mem), X9_bestLook d μ10 y14 μ12 ∧ (x = y14 ∧ μ' = μ12)))) ∧ (y9 = 0 → (x = (-2) ∧ μ' = μ7))))) ∧ (y6 = 0 → (x = (-1) ∧ μ' = μ4)))))))) : X9_look (d + 1) x1 x2 x3 μ x μ' := by
  refine Me_of [some (vr 9 0 0), some (vi x1), some (vi x2), some (vi x3)] rfl (Nat.le_of_ble_eq_true rfl) (by decide) ?_
  refine Ev_aload_n dX9_look_0 rfl ?_
  refine Ev_getF 8 0 192 flX9_71 rfl dX9_look_1 ?_
  refine Ev_iload_n dX9_look_4 rfl ?_
  obtain ⟨y3, μ1, hM2, h⟩ := h
  refine Ev_callV [_] mlX9_310 rfl rfl (Nat.le_of_ble_eq_true rfl) dX9_look_5 hM2 ?_
  refine Ev_if_eq 19 dX9_look_8 (by decide) (fun q => ?_) (fun q => ?_)
  · have h := h.1 q
    refine Ev_iconst (-1) dX9_look_19 (by decide) ?_
    obtain ⟨rfl, rfl⟩ := h
    exact R_i rfl dX9_look_20 rfl
  · have h := h.2 q
    refine Ev_iload_n dX9_look_11 rfl ?_
    refine Ev_iload_n dX9_look_12 rfl ?_
    obtain ⟨y6, μ4, hM5, h⟩ := h
    refine Ev_callS [_, _] mlX9_275 rfl rfl (Nat.le_of_ble_eq_true rfl) dX9_look_13 hM5 ?_
    refine Ev_if_ne 21 dX9_look_16 (by decide) (fun q => ?_) (fun q => ?_)
    · have h := h.1 q
      refine Ev_aload_n dX9_look_21 rfl ?_
      refine Ev_getP flX9_30 rfl dX9_look_22 ?_
      refine Ev_iconst 0 dX9_look_25 (by decide) ?_
      refine Ev_iconst 0 dX9_look_26 (by decide) ?_
      obtain ⟨y9, μ7, hM8, h⟩ := h
      refine Ev_callV [_, _] mlX9_107 rfl rfl (Nat.le_of_ble_eq_true rfl) dX9_look_27 hM8 ?_
      refine Ev_if_ne 36 dX9_look_30 (by decide) (fun q => ?_) (fun q => ?_)
      · have h := h.1 q
        refine Ev_aload_n dX9_look_36 rfl ?_
        refine Ev_iload_n dX9_look_37 rfl ?_
        refine Ev_iload_n dX9_look_38 rfl ?_
        refine Ev_iload_n dX9_look_39 rfl ?_
        obtain ⟨μ10, hM11, h⟩ := h
        refine Ev_callV [_, _, _] mlX9_313 rfl rfl (Nat.le_of_ble_eq_true rfl) dX9_look_40 hM11 ?_
        refine Ev_aload_n dX9_look_43 rfl ?_
        obtain ⟨y14, μ12, hM13, h⟩ := h
        refine Ev_callV [] mlX9_322 rfl rfl (Nat.le_of_ble_eq_true rfl) dX9_look_44 hM13 ?_
        obtain ⟨rfl, rfl⟩ := h
        exact R_i rfl dX9_look_47 rfl
      · have h := h.2 q
        refine Ev_bipush (-2) dX9_look_33 (by decide) ?_
        obtain ⟨rfl, rfl⟩ := h
        exact R_i rfl dX9_look_35 rfl
    · have h := h.2 q
      refine Ev_iconst (-1) dX9_look_19 (by decide) ?_
      obtain ⟨rfl, rfl⟩ := h
      exact R_i rfl dX9_look_20 rfl
set_option maxHeartbeats 4000000 in
set_option maxRecDepth 100000 in
theorem X9_loom_ok {d : Nat} {x1 : Int32} {x2 : Int32} {μ μ' : Mem} {x : Int32} (h : (∃ (y3 : Int32) (μ1 : Mem), X3_hasLoom d (μ.2.2 0 4) x1 μ y3 μ1 ∧ ((y3 = 0 → (x = (-1) ∧ μ' = μ1)) ∧ (¬ y3 = 0 → ((x2 < 0 → (x = (-1) ∧ μ' = μ1)) ∧ (¬ x2 < 0 → ((x2 < 8 → (∃ (y6 : Int32) (μ4 : Mem), X5_part d 13 x1 x2 μ1 y6 μ4 ∧ (x = y6 ∧ μ' = μ4))) ∧ (¬ x2 < 8 → (x = (-1) ∧ μ' = μ1))))))))) : X9_loom (d + 1) x1 x2 μ x μ' := by
  refine Me_of [some (vr 9 0 0), some (vi x1), some (vi x2)] rfl (Nat.le_of_ble_eq_true rfl) (by decide) ?_
  refine Ev_aload_n dX9_loom_0 rfl ?_
  refine Ev_getP flX9_30 rfl dX9_loom_1 ?_
  refine Ev_iload_n dX9_loom_4 rfl ?_
  obtain ⟨y3, μ1, hM2, h⟩ := h
  refine Ev_callV [_] mlX9_145 rfl rfl (Nat.le_of_ble_eq_true rfl) dX9_loom_5 hM2 ?_
  refine Ev_if_eq 21 dX9_loom_8 (by decide) (fun q => ?_) (fun q => ?_)
  · have h := h.1 q
    refine Ev_iconst (-1) dX9_loom_21 (by decide) ?_
    obtain ⟨rfl, rfl⟩ := h
    exact R_i rfl dX9_loom_22 rfl
  · have h := h.2 q
    refine Ev_iload_n dX9_loom_11 rfl ?_
    refine Ev_if_lt 21 dX9_loom_12 (by decide) (fun q => ?_) (fun q => ?_)
    · have h := h.1 q
      refine Ev_iconst (-1) dX9_loom_21 (by decide) ?_
      obtain ⟨rfl, rfl⟩ := h
      exact R_i rfl dX9_loom_22 rfl
    · have h := h.2 q
      refine Ev_iload_n dX9_loom_15 rfl ?_
      refine Ev_bipush 8 dX9_loom_16 (by decide) ?_
      refine Ev_icmp_lt 23 dX9_loom_18 (by decide) (fun q => ?_) (fun q => ?_)
      · have h := h.1 q
        refine Ev_aload_n dX9_loom_23 rfl ?_
        refine Ev_getF 5 0 13 flX9_46 rfl dX9_loom_24 ?_
        refine Ev_iload_n dX9_loom_27 rfl ?_
        refine Ev_iload_n dX9_loom_28 rfl ?_
        obtain ⟨y6, μ4, hM5, h⟩ := h
        refine Ev_callV [_, _] mlX9_148 rfl rfl (Nat.le_of_ble_eq_true rfl) dX9_loom_29 hM5 ?_
        obtain ⟨rfl, rfl⟩ := h
        exact R_i rfl dX9_loom_32 rfl
      · have h := h.2 q
        refine Ev_iconst (-1) dX9_loom_21 (by decide) ?_
        obtain ⟨rfl, rfl⟩ := h
        exact R_i rfl dX9_loom_22 rfl
set_option maxHeartbeats 4000000 in
set_option maxRecDepth 100000 in
theorem X9_now_ok {d : Nat} {x1 : Int32} {x2 : Int32} {μ μ' : Mem} {x : Int32} (h : (∃ (y3 : Int32) (μ1 : Mem), X3_hasField d (μ.2.2 0 4) x1 μ y3 μ1 ∧ ((y3 ≠ 0 → X9_now_at18 d x1 x2 0 0 μ1 x μ') ∧ (y3 = 0 → (x = (-1) ∧ μ' = μ1))))) : X9_now (d + 1) x1 x2 μ x μ' := by
  refine Me_of [some (vr 9 0 0), some (vi x1), some (vi x2), none, none, none] rfl (Nat.le_of_ble_eq_true rfl) (by decide) ?_
  refine Ev_aload_n dX9_now_0 rfl ?_
  refine Ev_getP flX9_30 rfl dX9_now_1 ?_
  refine Ev_iload_n dX9_now_4 rfl ?_
  obtain ⟨y3, μ1, hM2, h⟩ := h
  refine Ev_callV [_] mlX9_124 rfl rfl (Nat.le_of_ble_eq_true rfl) dX9_now_5 hM2 ?_
  refine Ev_if_ne 13 dX9_now_8 (by decide) (fun q => ?_) (fun q => ?_)
  · have h := h.1 q
    refine Ev_iconst 0 dX9_now_13 (by decide) ?_
    refine Ev_istore_n dX9_now_14 (Nat.le_of_ble_eq_true rfl) (okp_of rfl) ?_
    refine Ev_iconst 0 dX9_now_15 (by decide) ?_
    refine Ev_istore dX9_now_16 (Nat.le_of_ble_eq_true rfl) (okp_of rfl) ?_
    exact h
  · have h := h.2 q
    refine Ev_iconst (-1) dX9_now_11 (by decide) ?_
    obtain ⟨rfl, rfl⟩ := h
    exact R_i rfl dX9_now_12 rfl
set_option maxHeartbeats 4000000 in
set_option maxRecDepth 100000 in
theorem X9_now_at18_ok {d : Nat} {x1 : Int32} {x2 : Int32} {x3 : Int32} {x4 : Int32} {μ μ' : Mem} {x : Int32} (h : ((48 ≤ x4 → (x = x3 ∧ μ' = μ)) ∧ (¬ 48 ≤ x4 → ((x2 = 0 → vp_in x4 48 ∧ (∃ (y3 : Int32) (μ1 : Mem), X3_lacks d (μ.2.2 0 4) x1 (μ.1 14 x4.toNatClampNeg) μ y3 μ1 ∧ vp_in x4 48 ∧ (((μ1.1 (μ1.2.2 0 4 + 1) x4.toNatClampNeg) ≠ x1 → X9_now_at18 d x1 x2 x3 (x4 + 1) μ1 x μ') ∧ ((μ1.1 (μ1.2.2 0 4 + 1) x4.toNatClampNeg) = x1 → ((y3 = 0 → X9_now_at18 d x1 x2 x3 (x4 + 1) μ1 x μ') ∧ (¬ y3 = 0 → X9_now_at18 d x1 x2 (x3 + 1) (x4 + 1) μ1 x μ')))))) ∧ (¬ x2 = 0 → vp_in x4 48 ∧ (∃ (y6 : Int32) (μ4 : Mem), X3_drowned d (μ.2.2 0 4) x1 (μ.1 14 x4.toNatClampNeg) μ y6 μ4 ∧ vp_in x4 48 ∧ (((μ4.1 (μ4.2.2 0 4 + 1) x4.toNatClampNeg) ≠ x1 → X9_now_at18 d x1 x2 x3 (x4 + 1) μ4 x μ') ∧ ((μ4.1 (μ4.2.2 0 4 + 1) x4.toNatClampNeg) = x1 → ((y6 = 0 → X9_now_at18 d x1 x2 x3 (x4 + 1) μ4 x μ') ∧ (¬ y6 = 0 → X9_now_at18 d x1 x2 (x3 + 1) (x4 + 1) μ4 x μ')))))))))) : X9_now_at18 d x1 x2 x3 x4 μ x μ' := by
  refine Ev_iload dX9_now_18 rfl ?_
  refine Ev_bipush 48 dX9_now_20 (by decide) ?_
  refine Ev_icmp_ge 98 dX9_now_22 (by decide) (fun q => ?_) (fun q => ?_)
  · have h := h.1 q
    refine Ev_iload_n dX9_now_98 rfl ?_
    obtain ⟨rfl, rfl⟩ := h
    exact R_i rfl dX9_now_99 rfl
  · have h := h.2 q
    refine Ev_iload_n dX9_now_25 rfl ?_
    refine Ev_if_eq 50 dX9_now_26 (by decide) (fun q => ?_) (fun q => ?_)
    · have h := h.1 q
      refine Ev_aload_n dX9_now_50 rfl ?_
      refine Ev_getP flX9_30 rfl dX9_now_51 ?_
      refine Ev_iload_n dX9_now_54 rfl ?_
      refine Ev_aload_n dX9_now_55 rfl ?_
      refine Ev_getF 5 0 13 flX9_46 rfl dX9_now_56 ?_
      refine Ev_getF 11 48 1 flX9_160 rfl dX9_now_59 ?_
      refine Ev_iload dX9_now_62 rfl ?_
      obtain ⟨g, h⟩ := h
      refine Ev_iald g dX9_now_64 ?_
      obtain ⟨y3, μ1, hM2, h⟩ := h
      refine Ev_callV [_, _] mlX9_118 rfl rfl (Nat.le_of_ble_eq_true rfl) dX9_now_65 hM2 ?_
      refine Ev_istore dX9_now_68 (Nat.le_of_ble_eq_true rfl) (okp_of rfl) ?_
      refine Ev_aload_n dX9_now_70 rfl ?_
      refine Ev_getP flX9_30 rfl dX9_now_71 ?_
      refine Ev_getF 11 48 1 flX9_163 rfl dX9_now_74 ?_
      refine Ev_iload dX9_now_77 rfl ?_
      obtain ⟨g, h⟩ := h
      refine Ev_iald g dX9_now_79 ?_
      refine Ev_iload_n dX9_now_80 rfl ?_
      refine Ev_icmp_ne 92 dX9_now_81 (by decide) (fun q => ?_) (fun q => ?_)
      · have h := h.1 q
        refine Ev_iinc (x4 + 1) dX9_now_92 rfl rfl (okp_of rfl) ?_
        refine Ev_goto 18 dX9_now_95 (by decide) ?_
        refine Ev_weak ?_ h
        exact And.intro rfl (And.intro rfl (And.intro rfl (And.intro rfl (And.intro rfl (And.intro trivial (trivial))))))
      · have h := h.2 q
        refine Ev_iload dX9_now_84 rfl ?_
        refine Ev_if_eq 92 dX9_now_86 (by decide) (fun q => ?_) (fun q => ?_)
        · have h := h.1 q
          refine Ev_iinc (x4 + 1) dX9_now_92 rfl rfl (okp_of rfl) ?_
          refine Ev_goto 18 dX9_now_95 (by decide) ?_
          refine Ev_weak ?_ h
          exact And.intro rfl (And.intro rfl (And.intro rfl (And.intro rfl (And.intro rfl (And.intro trivial (trivial))))))
        · have h := h.2 q
          refine Ev_iinc (x3 + 1) dX9_now_89 rfl rfl (okp_of rfl) ?_
          refine Ev_iinc (x4 + 1) dX9_now_92 rfl rfl (okp_of rfl) ?_
          refine Ev_goto 18 dX9_now_95 (by decide) ?_
          refine Ev_weak ?_ h
          exact And.intro rfl (And.intro rfl (And.intro rfl (And.intro rfl (And.intro rfl (And.intro trivial (trivial))))))
    · have h := h.2 q
      refine Ev_aload_n dX9_now_29 rfl ?_
      refine Ev_getP flX9_30 rfl dX9_now_30 ?_
      refine Ev_iload_n dX9_now_33 rfl ?_
      refine Ev_aload_n dX9_now_34 rfl ?_
      refine Ev_getF 5 0 13 flX9_46 rfl dX9_now_35 ?_
      refine Ev_getF 11 48 1 flX9_160 rfl dX9_now_38 ?_
      refine Ev_iload dX9_now_41 rfl ?_
      obtain ⟨g, h⟩ := h
      refine Ev_iald g dX9_now_43 ?_
      obtain ⟨y6, μ4, hM5, h⟩ := h
      refine Ev_callV [_, _] mlX9_121 rfl rfl (Nat.le_of_ble_eq_true rfl) dX9_now_44 hM5 ?_
      refine Ev_goto 68 dX9_now_47 (by decide) ?_
      refine Ev_istore dX9_now_68 (Nat.le_of_ble_eq_true rfl) (okp_of rfl) ?_
      refine Ev_aload_n dX9_now_70 rfl ?_
      refine Ev_getP flX9_30 rfl dX9_now_71 ?_
      refine Ev_getF 11 48 1 flX9_163 rfl dX9_now_74 ?_
      refine Ev_iload dX9_now_77 rfl ?_
      obtain ⟨g, h⟩ := h
      refine Ev_iald g dX9_now_79 ?_
      refine Ev_iload_n dX9_now_80 rfl ?_
      refine Ev_icmp_ne 92 dX9_now_81 (by decide) (fun q => ?_) (fun q => ?_)
      · have h := h.1 q
        refine Ev_iinc (x4 + 1) dX9_now_92 rfl rfl (okp_of rfl) ?_
        refine Ev_goto 18 dX9_now_95 (by decide) ?_
        refine Ev_weak ?_ h
        exact And.intro rfl (And.intro rfl (And.intro rfl (And.intro rfl (And.intro rfl (And.intro trivial (trivial))))))
      · have h := h.2 q
        refine Ev_iload dX9_now_84 rfl ?_
        refine Ev_if_eq 92 dX9_now_86 (by decide) (fun q => ?_) (fun q => ?_)
        · have h := h.1 q
          refine Ev_iinc (x4 + 1) dX9_now_92 rfl rfl (okp_of rfl) ?_
          refine Ev_goto 18 dX9_now_95 (by decide) ?_
          refine Ev_weak ?_ h
          exact And.intro rfl (And.intro rfl (And.intro rfl (And.intro rfl (And.intro rfl (And.intro trivial (trivial))))))
        · have h := h.2 q
          refine Ev_iinc (x3 + 1) dX9_now_89 rfl rfl (okp_of rfl) ?_
          refine Ev_iinc (x4 + 1) dX9_now_92 rfl rfl (okp_of rfl) ?_
          refine Ev_goto 18 dX9_now_95 (by decide) ?_
          refine Ev_weak ?_ h
          exact And.intro rfl (And.intro rfl (And.intro rfl (And.intro rfl (And.intro rfl (And.intro trivial (trivial))))))
set_option maxHeartbeats 4000000 in
set_option maxRecDepth 100000 in
theorem X9_order_ok {d : Nat} {x1 : Int32} {x2 : Int32} {x3 : Int32} {x4 : Int32} {x5 : Int32} {μ μ' : Mem} {x : Int32} (h : (∃ (y3 : Int32) (μ1 : Mem), X9_isPiece d x1 x2 x3 μ y3 μ1 ∧ ((y3 = 0 → (x = 0 ∧ μ' = μ1)) ∧ (¬ y3 = 0 → (∃ (y6 : Int32) (μ4 : Mem), X3_hasCell d (μ1.2.2 0 4) x4 x5 μ1 y6 μ4 ∧ ((y6 = 0 → (x = 0 ∧ μ' = μ4)) ∧ (¬ y6 = 0 → (∃ (y9 : Int32) (μ7 : Mem), X5_isOrdered d 13 x1 x2 x3 x4 x5 μ4 y9 μ7 ∧ ((y9 = 0 → (∃ (μ10 : Mem), X2_remember d 13 μ7 μ10 ∧ (∃ (μ12 : Mem), X5_setOrder d 13 x1 x2 x3 x4 x5 μ10 μ12 ∧ (x = 1 ∧ μ' = μ12)))) ∧ (¬ y9 = 0 → (x = 0 ∧ μ' = μ7))))))))))) : X9_order (d + 1) x1 x2 x3 x4 x5 μ x μ' := by
  refine Me_of [some (vr 9 0 0), some (vi x1), some (vi x2), some (vi x3), some (vi x4), some (vi x5)] rfl (Nat.le_of_ble_eq_true rfl) (by decide) ?_
  refine Ev_aload_n dX9_order_0 rfl ?_
  refine Ev_iload_n dX9_order_1 rfl ?_
  refine Ev_iload_n dX9_order_2 rfl ?_
  refine Ev_iload_n dX9_order_3 rfl ?_
  obtain ⟨y3, μ1, hM2, h⟩ := h
  refine Ev_callV [_, _, _] mlX9_201 rfl rfl (Nat.le_of_ble_eq_true rfl) dX9_order_4 hM2 ?_
  refine Ev_if_eq 41 dX9_order_7 (by decide) (fun q => ?_) (fun q => ?_)
  · have h := h.1 q
    refine Ev_iconst 0 dX9_order_41 (by decide) ?_
    obtain ⟨rfl, rfl⟩ := h
    exact R_i rfl dX9_order_42 rfl
  · have h := h.2 q
    refine Ev_aload_n dX9_order_10 rfl ?_
    refine Ev_getP flX9_30 rfl dX9_order_11 ?_
    refine Ev_iload dX9_order_14 rfl ?_
    refine Ev_iload dX9_order_16 rfl ?_
    obtain ⟨y6, μ4, hM5, h⟩ := h
    refine Ev_callV [_, _] mlX9_107 rfl rfl (Nat.le_of_ble_eq_true rfl) dX9_order_18 hM5 ?_
    refine Ev_if_eq 41 dX9_order_21 (by decide) (fun q => ?_) (fun q => ?_)
    · have h := h.1 q
      refine Ev_iconst 0 dX9_order_41 (by decide) ?_
      obtain ⟨rfl, rfl⟩ := h
      exact R_i rfl dX9_order_42 rfl
    · have h := h.2 q
      refine Ev_aload_n dX9_order_24 rfl ?_
      refine Ev_getF 5 0 13 flX9_46 rfl dX9_order_25 ?_
      refine Ev_iload_n dX9_order_28 rfl ?_
      refine Ev_iload_n dX9_order_29 rfl ?_
      refine Ev_iload_n dX9_order_30 rfl ?_
      refine Ev_iload dX9_order_31 rfl ?_
      refine Ev_iload dX9_order_33 rfl ?_
      obtain ⟨y9, μ7, hM8, h⟩ := h
      refine Ev_callV [_, _, _, _, _] mlX9_205 rfl rfl (Nat.le_of_ble_eq_true rfl) dX9_order_35 hM8 ?_
      refine Ev_if_eq 43 dX9_order_38 (by decide) (fun q => ?_) (fun q => ?_)
      · have h := h.1 q
        refine Ev_aload_n dX9_order_43 rfl ?_
        refine Ev_getF 2 0 23 flX9_56 rfl dX9_order_44 ?_
        refine Ev_aload_n dX9_order_47 rfl ?_
        refine Ev_getF 5 0 13 flX9_46 rfl dX9_order_48 ?_
        obtain ⟨μ10, hM11, h⟩ := h
        refine Ev_callV [_] mlX9_209 rfl rfl (Nat.le_of_ble_eq_true rfl) dX9_order_51 hM11 ?_
        refine Ev_aload_n dX9_order_54 rfl ?_
        refine Ev_getF 5 0 13 flX9_46 rfl dX9_order_55 ?_
        refine Ev_iload_n dX9_order_58 rfl ?_
        refine Ev_iload_n dX9_order_59 rfl ?_
        refine Ev_iload_n dX9_order_60 rfl ?_
        refine Ev_iload dX9_order_61 rfl ?_
        refine Ev_iload dX9_order_63 rfl ?_
        obtain ⟨μ12, hM13, h⟩ := h
        refine Ev_callV [_, _, _, _, _] mlX9_213 rfl rfl (Nat.le_of_ble_eq_true rfl) dX9_order_65 hM13 ?_
        refine Ev_iconst 1 dX9_order_68 (by decide) ?_
        obtain ⟨rfl, rfl⟩ := h
        exact R_i rfl dX9_order_69 rfl
      · have h := h.2 q
        refine Ev_iconst 0 dX9_order_41 (by decide) ?_
        obtain ⟨rfl, rfl⟩ := h
        exact R_i rfl dX9_order_42 rfl
set_option maxHeartbeats 4000000 in
set_option maxRecDepth 100000 in
theorem X9_place_ok {d : Nat}  {μ μ' : Mem} {x : Int32} (h : (x = μ.1 0 2 ∧ μ' = μ)) : X9_place d μ x μ' := by
  refine Me_of [some (vr 9 0 0)] rfl (Nat.le_of_ble_eq_true rfl) (by decide) ?_
  refine Ev_aload_n dX9_place_0 rfl ?_
  refine Ev_getI flX9_17 rfl dX9_place_1 ?_
  obtain ⟨rfl, rfl⟩ := h
  exact R_i rfl dX9_place_4 rfl
set_option maxHeartbeats 4000000 in
set_option maxRecDepth 100000 in
theorem X9_putFour_ok {d : Nat} {x1 : Int32} {μ μ' : Mem} (h : X9_putFour_at3 d x1 24 μ μ') : X9_putFour d x1 μ μ' := by
  refine Me_of [some (vr 9 0 0), some (vi x1), none] rfl (Nat.le_of_ble_eq_true rfl) (by decide) ?_
  refine Ev_bipush 24 dX9_putFour_0 (by decide) ?_
  refine Ev_istore_n dX9_putFour_2 (Nat.le_of_ble_eq_true rfl) (okp_of rfl) ?_
  exact h
set_option maxHeartbeats 4000000 in
set_option maxRecDepth 100000 in
theorem X9_putFour_at3_ok {d : Nat} {x1 : Int32} {x2 : Int32} {μ μ' : Mem} (h : ((x2 < 0 → μ' = μ) ∧ (¬ x2 < 0 → ((2000 ≤ (μ.1 0 1) → μ' = μ) ∧ (¬ 2000 ≤ (μ.1 0 1) → vp_in (μ.1 0 1) 2000 ∧ (∀ μ1 : Mem, μ1 = sI μ 1 ((μ.1 0 1).toNatClampNeg) (vp_nar .byte (((x1.toUInt32 >>> ((x2 : Int32).toUInt32 &&& Int32.toUInt32 31)).toInt32).toInt8.toInt32)) → (∀ μ2 : Mem, μ2 = sI μ1 0 1 ((μ1.1 0 1) + 1) → X9_putFour_at3 d x1 (x2 + (-8)) μ2 μ'))))))) : X9_putFour_at3 d x1 x2 μ μ' := by
  refine Ev_iload_n dX9_putFour_3 rfl ?_
  refine Ev_if_lt 46 dX9_putFour_4 (by decide) (fun q => ?_) (fun q => ?_)
  · have h := h.1 q
    subst h
    exact R_v rfl dX9_putFour_46
  · have h := h.2 q
    refine Ev_aload_n dX9_putFour_7 rfl ?_
    refine Ev_getI flX9_13 rfl dX9_putFour_8 ?_
    refine Ev_sipush 2000 dX9_putFour_11 (by decide) ?_
    refine Ev_icmp_ge 46 dX9_putFour_14 (by decide) (fun q => ?_) (fun q => ?_)
    · have h := h.1 q
      subst h
      exact R_v rfl dX9_putFour_46
    · have h := h.2 q
      refine Ev_aload_n dX9_putFour_17 rfl ?_
      refine Ev_getF 12 2000 1 flX9_9 rfl dX9_putFour_18 ?_
      refine Ev_aload_n dX9_putFour_21 rfl ?_
      refine Ev_getI flX9_13 rfl dX9_putFour_22 ?_
      refine Ev_iload_n dX9_putFour_25 rfl ?_
      refine Ev_iload_n dX9_putFour_26 rfl ?_
      refine Ev_iushr dX9_putFour_27 ?_
      refine Ev_i2b dX9_putFour_28 ?_
      obtain ⟨g, h⟩ := h
      refine Ev_bast g dX9_putFour_29 ?_
      have h := h _ rfl
      refine Ev_aload_n dX9_putFour_30 rfl ?_
      refine Ev_dup dX9_putFour_31 (fun _ z => by cases z) ?_
      refine Ev_getI flX9_13 rfl dX9_putFour_32 ?_
      refine Ev_iconst 1 dX9_putFour_35 (by decide) ?_
      refine Ev_iadd dX9_putFour_36 ?_
      refine Ev_putI .int flX9_13 fpX9_1 rfl rfl rfl dX9_putFour_37 ?_
      have h := h _ rfl
      refine Ev_iinc (x2 + (-8)) dX9_putFour_40 rfl rfl (okp_of rfl) ?_
      refine Ev_goto 3 dX9_putFour_43 (by decide) ?_
      exact h
set_option maxHeartbeats 4000000 in
set_option maxRecDepth 100000 in
theorem X9_read_ok {d : Nat}  {μ μ' : Mem} {x : Int32} (h : (∃ (y3 : Int32) (μ1 : Mem), X4_readText d (μ.1 0 1) μ y3 μ1 ∧ (∀ μ4 : Mem, μ4 = sI μ1 0 1 0 → (∀ μ5 : Mem, μ5 = sI μ4 0 2 (μ4.1 2 7) → ((y3 ≠ 0 → (x = y3 ∧ μ' = μ5)) ∧ (y3 = 0 → (∀ μ6 : Mem, μ6 = sP μ5 0 4 (μ5.2.2 2 1) → (∀ μ7 : Mem, μ7 = sP μ6 2 1 (μ5.2.2 0 4) → (∃ (μ8 : Mem), X9_beginAnew d μ7 μ8 ∧ (x = y3 ∧ μ' = μ8)))))))))) : X9_read (d + 1) μ x μ' := by
  refine Me_of [some (vr 9 0 0), none, none] rfl (Nat.le_of_ble_eq_true rfl) (by decide) ?_
  refine Ev_aload_n dX9_read_0 rfl ?_
  refine Ev_getF 4 0 2 flX9_23 rfl dX9_read_1 ?_
  refine Ev_aload_n dX9_read_4 rfl ?_
  refine Ev_getF 12 2000 1 flX9_9 rfl dX9_read_5 ?_
  refine Ev_aload_n dX9_read_8 rfl ?_
  refine Ev_getI flX9_13 rfl dX9_read_9 ?_
  obtain ⟨y3, μ1, hM2, h⟩ := h
  refine Ev_callV [_, _] mlX9_93 rfl rfl (Nat.le_of_ble_eq_true rfl) dX9_read_12 hM2 ?_
  refine Ev_istore_n dX9_read_15 (Nat.le_of_ble_eq_true rfl) (okp_of rfl) ?_
  refine Ev_aload_n dX9_read_16 rfl ?_
  refine Ev_iconst 0 dX9_read_17 (by decide) ?_
  refine Ev_putI .int flX9_13 fpX9_1 rfl rfl rfl dX9_read_18 ?_
  have h := h _ rfl
  refine Ev_aload_n dX9_read_21 rfl ?_
  refine Ev_aload_n dX9_read_22 rfl ?_
  refine Ev_getF 4 0 2 flX9_23 rfl dX9_read_23 ?_
  refine Ev_getI flX9_97 rfl dX9_read_26 ?_
  refine Ev_putI .int flX9_17 fpX9_2 rfl rfl rfl dX9_read_29 ?_
  have h := h _ rfl
  refine Ev_iload_n dX9_read_32 rfl ?_
  refine Ev_if_ne 64 dX9_read_33 (by decide) (fun q => ?_) (fun q => ?_)
  · have h := h.1 q
    refine Ev_iload_n dX9_read_64 rfl ?_
    obtain ⟨rfl, rfl⟩ := h
    exact R_i rfl dX9_read_65 rfl
  · have h := h.2 q
    refine Ev_aload_n dX9_read_36 rfl ?_
    refine Ev_getP flX9_30 rfl dX9_read_37 ?_
    refine Ev_astore_n dX9_read_40 (Nat.le_of_ble_eq_true rfl) (okp_of rfl) ?_
    refine Ev_aload_n dX9_read_41 rfl ?_
    refine Ev_aload_n dX9_read_42 rfl ?_
    refine Ev_getF 4 0 2 flX9_23 rfl dX9_read_43 ?_
    refine Ev_getP flX9_98 rfl dX9_read_46 ?_
    refine Ev_putP flX9_30 fpX9_4 rfl dX9_read_49 ?_
    have h := h _ rfl
    refine Ev_aload_n dX9_read_52 rfl ?_
    refine Ev_getF 4 0 2 flX9_23 rfl dX9_read_53 ?_
    refine Ev_aload_n dX9_read_56 rfl ?_
    refine Ev_putP flX9_98 fpX4_1 rfl dX9_read_57 ?_
    have h := h _ rfl
    refine Ev_aload_n dX9_read_60 rfl ?_
    obtain ⟨μ8, hM9, h⟩ := h
    refine Ev_callV [] mlX9_99 rfl rfl (Nat.le_of_ble_eq_true rfl) dX9_read_61 hM9 ?_
    refine Ev_iload_n dX9_read_64 rfl ?_
    obtain ⟨rfl, rfl⟩ := h
    exact R_i rfl dX9_read_65 rfl
set_option maxHeartbeats 4000000 in
set_option maxRecDepth 100000 in
theorem X9_restore_ok {d : Nat} {x1 : Int32} {μ μ' : Mem} {x : Int32} (h : ((x1 < 0 → (x = 0 ∧ μ' = μ)) ∧ (¬ x1 < 0 → ((3 ≤ x1 → (x = 0 ∧ μ' = μ)) ∧ (¬ 3 ≤ x1 → vp_in x1 3 ∧ (((μ.1 191 x1.toNatClampNeg) ≠ 0 → vp_in x1 3 ∧ (∃ (y3 : Nat) (μ1 : Mem), X5_copy d 13 (176 + 5 * x1.toNatClampNeg) μ y3 μ1 ∧ (∃ (μ4 : Mem), X2_clear d μ1 μ4 ∧ (x = 1 ∧ μ' = μ4)))) ∧ ((μ.1 191 x1.toNatClampNeg) = 0 → (x = 0 ∧ μ' = μ)))))))) : X9_restore (d + 1) x1 μ x μ' := by
  refine Me_of [some (vr 9 0 0), some (vi x1)] rfl (Nat.le_of_ble_eq_true rfl) (by decide) ?_
  refine Ev_iload_n dX9_restore_0 rfl ?_
  refine Ev_if_lt 18 dX9_restore_1 (by decide) (fun q => ?_) (fun q => ?_)
  · have h := h.1 q
    refine Ev_iconst 0 dX9_restore_18 (by decide) ?_
    obtain ⟨rfl, rfl⟩ := h
    exact R_i rfl dX9_restore_19 rfl
  · have h := h.2 q
    refine Ev_iload_n dX9_restore_4 rfl ?_
    refine Ev_iconst 3 dX9_restore_5 (by decide) ?_
    refine Ev_icmp_ge 18 dX9_restore_6 (by decide) (fun q => ?_) (fun q => ?_)
    · have h := h.1 q
      refine Ev_iconst 0 dX9_restore_18 (by decide) ?_
      obtain ⟨rfl, rfl⟩ := h
      exact R_i rfl dX9_restore_19 rfl
    · have h := h.2 q
      refine Ev_aload_n dX9_restore_9 rfl ?_
      refine Ev_getF 14 3 191 flX9_64 rfl dX9_restore_10 ?_
      refine Ev_iload_n dX9_restore_13 rfl ?_
      obtain ⟨g, h⟩ := h
      refine Ev_zald g dX9_restore_14 ?_
      refine Ev_if_ne 20 dX9_restore_15 (by decide) (fun q => ?_) (fun q => ?_)
      · have h := h.1 q
        refine Ev_aload_n dX9_restore_20 rfl ?_
        refine Ev_getF 5 0 13 flX9_46 rfl dX9_restore_21 ?_
        refine Ev_aload_n dX9_restore_24 rfl ?_
        refine Ev_getF 15 3 175 flX9_60 rfl dX9_restore_25 ?_
        refine Ev_iload_n dX9_restore_28 rfl ?_
        obtain ⟨g, h⟩ := h
        refine Ev_aald 5 0 5 (by decide) (by decide) rfl g dX9_restore_29 ?_
        obtain ⟨y3, μ1, hM2, h⟩ := h
        refine Ev_callV [_] mlX9_301 rfl rfl (Nat.le_of_ble_eq_true rfl) dX9_restore_30 hM2 ?_
        refine Ev_pop dX9_restore_33 (fun _ z => by cases z) ?_
        refine Ev_aload_n dX9_restore_34 rfl ?_
        refine Ev_getF 2 0 23 flX9_56 rfl dX9_restore_35 ?_
        obtain ⟨μ4, hM5, h⟩ := h
        refine Ev_callV [] mlX9_103 rfl rfl (Nat.le_of_ble_eq_true rfl) dX9_restore_38 hM5 ?_
        refine Ev_iconst 1 dX9_restore_41 (by decide) ?_
        obtain ⟨rfl, rfl⟩ := h
        exact R_i rfl dX9_restore_42 rfl
      · have h := h.2 q
        refine Ev_iconst 0 dX9_restore_18 (by decide) ?_
        obtain ⟨rfl, rfl⟩ := h
        exact R_i rfl dX9_restore_19 rfl
set_option maxHeartbeats 4000000 in
set_option maxRecDepth 100000 in
theorem X9_round_ok {d : Nat} {x1 : Int32} {μ μ' : Mem} {x : Int32} (h : (∃ (y3 : Int32) (μ1 : Mem), X3_hasLoom d (μ.2.2 0 4) x1 μ y3 μ1 ∧ ((y3 ≠ 0 → (∃ (y6 : Int32) (μ4 : Mem), X5_part d 13 x1 1 μ1 y6 μ4 ∧ X9_round_at25 d x1 y6 1 μ4 x μ')) ∧ (y3 = 0 → (x = (-1) ∧ μ' = μ1))))) : X9_round (d + 1) x1 μ x μ' := by
  refine Me_of [some (vr 9 0 0), some (vi x1), none, none] rfl (Nat.le_of_ble_eq_true rfl) (by decide) ?_
  refine Ev_aload_n dX9_round_0 rfl ?_
  refine Ev_getP flX9_30 rfl dX9_round_1 ?_
  refine Ev_iload_n dX9_round_4 rfl ?_
  obtain ⟨y3, μ1, hM2, h⟩ := h
  refine Ev_callV [_] mlX9_145 rfl rfl (Nat.le_of_ble_eq_true rfl) dX9_round_5 hM2 ?_
  refine Ev_if_ne 13 dX9_round_8 (by decide) (fun q => ?_) (fun q => ?_)
  · have h := h.1 q
    refine Ev_aload_n dX9_round_13 rfl ?_
    refine Ev_getF 5 0 13 flX9_46 rfl dX9_round_14 ?_
    refine Ev_iload_n dX9_round_17 rfl ?_
    refine Ev_iconst 1 dX9_round_18 (by decide) ?_
    obtain ⟨y6, μ4, hM5, h⟩ := h
    refine Ev_callV [_, _] mlX9_148 rfl rfl (Nat.le_of_ble_eq_true rfl) dX9_round_19 hM5 ?_
    refine Ev_istore_n dX9_round_22 (Nat.le_of_ble_eq_true rfl) (okp_of rfl) ?_
    refine Ev_iconst 1 dX9_round_23 (by decide) ?_
    refine Ev_istore_n dX9_round_24 (Nat.le_of_ble_eq_true rfl) (okp_of rfl) ?_
    exact h
  · have h := h.2 q
    refine Ev_iconst (-1) dX9_round_11 (by decide) ?_
    obtain ⟨rfl, rfl⟩ := h
    exact R_i rfl dX9_round_12 rfl
set_option maxHeartbeats 4000000 in
set_option maxRecDepth 100000 in
theorem X9_round_at25_ok {d : Nat} {x1 : Int32} {x2 : Int32} {x3 : Int32} {μ μ' : Mem} {x : Int32} (h : ((99 < x3 → (x = (-2) ∧ μ' = μ)) ∧ (¬ 99 < x3 → (∃ (y3 : Int32) (μ1 : Mem), X9_comesRound d x1 x2 x3 μ y3 μ1 ∧ ((y3 = 0 → X9_round_at25 d x1 x2 (x3 + 1) μ1 x μ') ∧ (¬ y3 = 0 → (x = x3 ∧ μ' = μ1))))))) : X9_round_at25 d x1 x2 x3 μ x μ' := by
  refine Ev_iload_n dX9_round_25 rfl ?_
  refine Ev_bipush 99 dX9_round_26 (by decide) ?_
  refine Ev_icmp_gt 49 dX9_round_28 (by decide) (fun q => ?_) (fun q => ?_)
  · have h := h.1 q
    refine Ev_bipush (-2) dX9_round_49 (by decide) ?_
    obtain ⟨rfl, rfl⟩ := h
    exact R_i rfl dX9_round_51 rfl
  · have h := h.2 q
    refine Ev_aload_n dX9_round_31 rfl ?_
    refine Ev_iload_n dX9_round_32 rfl ?_
    refine Ev_iload_n dX9_round_33 rfl ?_
    refine Ev_iload_n dX9_round_34 rfl ?_
    obtain ⟨y3, μ1, hM2, h⟩ := h
    refine Ev_callV [_, _, _] mlX9_253 rfl rfl (Nat.le_of_ble_eq_true rfl) dX9_round_35 hM2 ?_
    refine Ev_if_eq 43 dX9_round_38 (by decide) (fun q => ?_) (fun q => ?_)
    · have h := h.1 q
      refine Ev_iinc (x3 + 1) dX9_round_43 rfl rfl (okp_of rfl) ?_
      refine Ev_goto 25 dX9_round_46 (by decide) ?_
      exact h
    · have h := h.2 q
      refine Ev_iload_n dX9_round_41 rfl ?_
      obtain ⟨rfl, rfl⟩ := h
      exact R_i rfl dX9_round_42 rfl
set_option maxHeartbeats 4000000 in
set_option maxRecDepth 100000 in
theorem X9_serve_ok {d : Nat} {x1 : Int32} {x2 : Int32} {x3 : Int32} {μ μ' : Mem} {x : Int32} (h : (∃ (y3 : Int32) (μ1 : Mem), X9_isSize d x1 x2 μ y3 μ1 ∧ ((y3 = 0 → (x = (-1) ∧ μ' = μ1)) ∧ (¬ y3 = 0 → (∃ (y6 : Int32) (μ4 : Mem), X3_narrowest d (μ1.2.2 0 4) μ1 y6 μ4 ∧ ((y6 < x1 → (x = (-1) ∧ μ' = μ4)) ∧ (¬ y6 < x1 → ((x3 < (-1) → (x = (-1) ∧ μ' = μ4)) ∧ (¬ x3 < (-1) → ((x3 < (μ4.1 (μ4.2.2 0 4) 3) → (((μ4.1 (μ4.2.2 0 4) 3) ≤ (μ4.1 (μ4.2.2 0 4) 2) → X9_serve_at60 d x1 x2 x3 0 μ4 x μ') ∧ (¬ (μ4.1 (μ4.2.2 0 4) 3) ≤ (μ4.1 (μ4.2.2 0 4) 2) → (x = (-2) ∧ μ' = μ4)))) ∧ (¬ x3 < (μ4.1 (μ4.2.2 0 4) 3) → (x = (-1) ∧ μ' = μ4)))))))))))) : X9_serve (d + 1) x1 x2 x3 μ x μ' := by
  refine Me_of [some (vr 9 0 0), some (vi x1), some (vi x2), some (vi x3), none] rfl (Nat.le_of_ble_eq_true rfl) (by decide) ?_
  refine Ev_iload_n dX9_serve_0 rfl ?_
  refine Ev_iload_n dX9_serve_1 rfl ?_
  obtain ⟨y3, μ1, hM2, h⟩ := h
  refine Ev_callS [_, _] mlX9_275 rfl rfl (Nat.le_of_ble_eq_true rfl) dX9_serve_2 hM2 ?_
  refine Ev_if_eq 35 dX9_serve_5 (by decide) (fun q => ?_) (fun q => ?_)
  · have h := h.1 q
    refine Ev_iconst (-1) dX9_serve_35 (by decide) ?_
    obtain ⟨rfl, rfl⟩ := h
    exact R_i rfl dX9_serve_36 rfl
  · have h := h.2 q
    refine Ev_iload_n dX9_serve_8 rfl ?_
    refine Ev_aload_n dX9_serve_9 rfl ?_
    refine Ev_getP flX9_30 rfl dX9_serve_10 ?_
    obtain ⟨y6, μ4, hM5, h⟩ := h
    refine Ev_callV [] mlX9_278 rfl rfl (Nat.le_of_ble_eq_true rfl) dX9_serve_13 hM5 ?_
    refine Ev_icmp_gt 35 dX9_serve_16 (by decide) (fun q => ?_) (fun q => ?_)
    · have h := h.1 q
      refine Ev_iconst (-1) dX9_serve_35 (by decide) ?_
      obtain ⟨rfl, rfl⟩ := h
      exact R_i rfl dX9_serve_36 rfl
    · have h := h.2 q
      refine Ev_iload_n dX9_serve_19 rfl ?_
      refine Ev_iconst (-1) dX9_serve_20 (by decide) ?_
      refine Ev_icmp_lt 35 dX9_serve_21 (by decide) (fun q => ?_) (fun q => ?_)
      · have h := h.1 q
        refine Ev_iconst (-1) dX9_serve_35 (by decide) ?_
        obtain ⟨rfl, rfl⟩ := h
        exact R_i rfl dX9_serve_36 rfl
      · have h := h.2 q
        refine Ev_iload_n dX9_serve_24 rfl ?_
        refine Ev_aload_n dX9_serve_25 rfl ?_
        refine Ev_getP flX9_30 rfl dX9_serve_26 ?_
        refine Ev_getI flX9_175 rfl dX9_serve_29 ?_
        refine Ev_icmp_lt 37 dX9_serve_32 (by decide) (fun q => ?_) (fun q => ?_)
        · have h := h.1 q
          refine Ev_aload_n dX9_serve_37 rfl ?_
          refine Ev_getP flX9_30 rfl dX9_serve_38 ?_
          refine Ev_getI flX9_175 rfl dX9_serve_41 ?_
          refine Ev_aload_n dX9_serve_44 rfl ?_
          refine Ev_getP flX9_30 rfl dX9_serve_45 ?_
          refine Ev_getI flX9_172 rfl dX9_serve_48 ?_
          refine Ev_icmp_le 57 dX9_serve_51 (by decide) (fun q => ?_) (fun q => ?_)
          · have h := h.1 q
            refine Ev_iconst 0 dX9_serve_57 (by decide) ?_
            refine Ev_istore dX9_serve_58 (Nat.le_of_ble_eq_true rfl) (okp_of rfl) ?_
            exact h
          · have h := h.2 q
            refine Ev_bipush (-2) dX9_serve_54 (by decide) ?_
            obtain ⟨rfl, rfl⟩ := h
            exact R_i rfl dX9_serve_56 rfl
        · have h := h.2 q
          refine Ev_iconst (-1) dX9_serve_35 (by decide) ?_
          obtain ⟨rfl, rfl⟩ := h
          exact R_i rfl dX9_serve_36 rfl
set_option maxHeartbeats 4000000 in
set_option maxRecDepth 100000 in
theorem X9_serve_at60_ok {d : Nat} {x1 : Int32} {x2 : Int32} {x3 : Int32} {x4 : Int32} {μ μ' : Mem} {x : Int32} (h : (((μ.1 (μ.2.2 0 4) 3) ≤ x4 → (∃ (y3 : Int32) (μ1 : Mem), X9_bestService d x3 μ y3 μ1 ∧ (x = y3 ∧ μ' = μ1))) ∧ (¬ (μ.1 (μ.2.2 0 4) 3) ≤ x4 → (∃ (y6 : Int32) (μ4 : Mem), X9_heldBy d x4 x1 x2 μ y6 μ4 ∧ vp_in x4 4 ∧ (∀ μ7 : Mem, μ7 = sI μ4 213 x4.toNatClampNeg y6 → X9_serve_at60 d x1 x2 x3 (x4 + 1) μ7 x μ'))))) : X9_serve_at60 d x1 x2 x3 x4 μ x μ' := by
  refine Ev_iload dX9_serve_60 rfl ?_
  refine Ev_aload_n dX9_serve_62 rfl ?_
  refine Ev_getP flX9_30 rfl dX9_serve_63 ?_
  refine Ev_getI flX9_175 rfl dX9_serve_66 ?_
  refine Ev_icmp_ge 93 dX9_serve_69 (by decide) (fun q => ?_) (fun q => ?_)
  · have h := h.1 q
    refine Ev_aload_n dX9_serve_93 rfl ?_
    refine Ev_iload_n dX9_serve_94 rfl ?_
    obtain ⟨y3, μ1, hM2, h⟩ := h
    refine Ev_callV [_] mlX9_285 rfl rfl (Nat.le_of_ble_eq_true rfl) dX9_serve_95 hM2 ?_
    obtain ⟨rfl, rfl⟩ := h
    exact R_i rfl dX9_serve_98 rfl
  · have h := h.2 q
    refine Ev_aload_n dX9_serve_72 rfl ?_
    refine Ev_getF 11 4 213 flX9_82 rfl dX9_serve_73 ?_
    refine Ev_iload dX9_serve_76 rfl ?_
    refine Ev_aload_n dX9_serve_78 rfl ?_
    refine Ev_iload dX9_serve_79 rfl ?_
    refine Ev_iload_n dX9_serve_81 rfl ?_
    refine Ev_iload_n dX9_serve_82 rfl ?_
    obtain ⟨y6, μ4, hM5, h⟩ := h
    refine Ev_callV [_, _, _] mlX9_281 rfl rfl (Nat.le_of_ble_eq_true rfl) dX9_serve_83 hM5 ?_
    obtain ⟨g, h⟩ := h
    refine Ev_iast g dX9_serve_86 ?_
    have h := h _ rfl
    refine Ev_iinc (x4 + 1) dX9_serve_87 rfl rfl (okp_of rfl) ?_
    refine Ev_goto 60 dX9_serve_90 (by decide) ?_
    exact h
set_option maxHeartbeats 4000000 in
set_option maxRecDepth 100000 in
theorem X9_servedBy_ok {d : Nat} {x1 : Int32} {x2 : Int32} {μ μ' : Mem} {x : Int32} (h : X9_servedBy_at13 d x2 x1 ((μ.1 (μ.2.2 0 4) 3) - 1) μ x μ') : X9_servedBy d x1 x2 μ x μ' := by
  refine Me_of [some (vr 9 0 0), some (vi x1), some (vi x2), none, none] rfl (Nat.le_of_ble_eq_true rfl) (by decide) ?_
  refine Ev_iload_n dX9_servedBy_0 rfl ?_
  refine Ev_istore_n dX9_servedBy_1 (Nat.le_of_ble_eq_true rfl) (okp_of rfl) ?_
  refine Ev_aload_n dX9_servedBy_2 rfl ?_
  refine Ev_getP flX9_30 rfl dX9_servedBy_3 ?_
  refine Ev_getI flX9_175 rfl dX9_servedBy_6 ?_
  refine Ev_iconst 1 dX9_servedBy_9 (by decide) ?_
  refine Ev_isub dX9_servedBy_10 ?_
  refine Ev_istore dX9_servedBy_11 (Nat.le_of_ble_eq_true rfl) (okp_of rfl) ?_
  refine Ev_weak ?_ h
  exact And.intro rfl (And.intro trivial (And.intro rfl (And.intro rfl (And.intro rfl (trivial)))))
set_option maxHeartbeats 4000000 in
set_option maxRecDepth 100000 in
theorem X9_servedBy_at13_ok {d : Nat} {x2 : Int32} {x3 : Int32} {x4 : Int32} {μ μ' : Mem} {x : Int32} (h : ((x4 ≤ x2 → (((μ.1 (μ.2.2 0 4) 2) ≤ 0 → (x = 0 ∧ μ' = μ)) ∧ (¬ (μ.1 (μ.2.2 0 4) 2) ≤ 0 → ¬ (μ.1 (μ.2.2 0 4) 2) = 0 ∧ (x = x3 - x3 / (μ.1 (μ.2.2 0 4) 2) * (μ.1 (μ.2.2 0 4) 2) ∧ μ' = μ)))) ∧ (¬ x4 ≤ x2 → (((μ.1 (μ.2.2 0 4) 2) ≤ 0 → (((μ.1 (μ.2.2 0 4) 2) ≤ 0 → (x = 0 ∧ μ' = μ)) ∧ (¬ (μ.1 (μ.2.2 0 4) 2) ≤ 0 → ¬ (μ.1 (μ.2.2 0 4) 2) = 0 ∧ (x = x3 - x3 / (μ.1 (μ.2.2 0 4) 2) * (μ.1 (μ.2.2 0 4) 2) ∧ μ' = μ)))) ∧ (¬ (μ.1 (μ.2.2 0 4) 2) ≤ 0 → ¬ (μ.1 (μ.2.2 0 4) 2) = 0 ∧ X9_servedBy_at13 d x2 (x3 / (μ.1 (μ.2.2 0 4) 2)) (x4 + (-1)) μ x μ'))))) : X9_servedBy_at13 d x2 x3 x4 μ x μ' := by
  refine Ev_iload dX9_servedBy_13 rfl ?_
  refine Ev_iload_n dX9_servedBy_15 rfl ?_
  refine Ev_icmp_le 45 dX9_servedBy_16 (by decide) (fun q => ?_) (fun q => ?_)
  · have h := h.1 q
    refine Ev_aload_n dX9_servedBy_45 rfl ?_
    refine Ev_getP flX9_30 rfl dX9_servedBy_46 ?_
    refine Ev_getI flX9_172 rfl dX9_servedBy_49 ?_
    refine Ev_if_le 67 dX9_servedBy_52 (by decide) (fun q => ?_) (fun q => ?_)
    · have h := h.1 q
      refine Ev_iconst 0 dX9_servedBy_67 (by decide) ?_
      obtain ⟨rfl, rfl⟩ := h
      exact R_i rfl dX9_servedBy_68 rfl
    · have h := h.2 q
      refine Ev_iload_n dX9_servedBy_55 rfl ?_
      refine Ev_aload_n dX9_servedBy_56 rfl ?_
      refine Ev_getP flX9_30 rfl dX9_servedBy_57 ?_
      refine Ev_getI flX9_172 rfl dX9_servedBy_60 ?_
      obtain ⟨g, h⟩ := h
      refine Ev_irem dX9_servedBy_63 g ?_
      refine Ev_goto 68 dX9_servedBy_64 (by decide) ?_
      obtain ⟨rfl, rfl⟩ := h
      exact R_i rfl dX9_servedBy_68 rfl
  · have h := h.2 q
    refine Ev_aload_n dX9_servedBy_19 rfl ?_
    refine Ev_getP flX9_30 rfl dX9_servedBy_20 ?_
    refine Ev_getI flX9_172 rfl dX9_servedBy_23 ?_
    refine Ev_if_le 45 dX9_servedBy_26 (by decide) (fun q => ?_) (fun q => ?_)
    · have h := h.1 q
      refine Ev_aload_n dX9_servedBy_45 rfl ?_
      refine Ev_getP flX9_30 rfl dX9_servedBy_46 ?_
      refine Ev_getI flX9_172 rfl dX9_servedBy_49 ?_
      refine Ev_if_le 67 dX9_servedBy_52 (by decide) (fun q => ?_) (fun q => ?_)
      · have h := h.1 q
        refine Ev_iconst 0 dX9_servedBy_67 (by decide) ?_
        obtain ⟨rfl, rfl⟩ := h
        exact R_i rfl dX9_servedBy_68 rfl
      · have h := h.2 q
        refine Ev_iload_n dX9_servedBy_55 rfl ?_
        refine Ev_aload_n dX9_servedBy_56 rfl ?_
        refine Ev_getP flX9_30 rfl dX9_servedBy_57 ?_
        refine Ev_getI flX9_172 rfl dX9_servedBy_60 ?_
        obtain ⟨g, h⟩ := h
        refine Ev_irem dX9_servedBy_63 g ?_
        refine Ev_goto 68 dX9_servedBy_64 (by decide) ?_
        obtain ⟨rfl, rfl⟩ := h
        exact R_i rfl dX9_servedBy_68 rfl
    · have h := h.2 q
      refine Ev_iload_n dX9_servedBy_29 rfl ?_
      refine Ev_aload_n dX9_servedBy_30 rfl ?_
      refine Ev_getP flX9_30 rfl dX9_servedBy_31 ?_
      refine Ev_getI flX9_172 rfl dX9_servedBy_34 ?_
      obtain ⟨g, h⟩ := h
      refine Ev_idiv dX9_servedBy_37 g ?_
      refine Ev_istore_n dX9_servedBy_38 (Nat.le_of_ble_eq_true rfl) (okp_of rfl) ?_
      refine Ev_iinc (x4 + (-1)) dX9_servedBy_39 rfl rfl (okp_of rfl) ?_
      refine Ev_goto 13 dX9_servedBy_42 (by decide) ?_
      exact h
set_option maxHeartbeats 4000000 in
set_option maxRecDepth 100000 in
theorem X9_serviceSum_ok {d : Nat} {x1 : Int32} {μ μ' : Mem} {x : Int32} (h : X9_serviceSum_at18 d 0 0 x1 ((μ.1 (μ.2.2 0 4) 3) - 1) μ x μ') : X9_serviceSum (d + 1) x1 μ x μ' := by
  refine Me_of [some (vr 9 0 0), some (vi x1), none, none, none, none, none] rfl (Nat.le_of_ble_eq_true rfl) (by decide) ?_
  refine Ev_iconst 0 dX9_serviceSum_0 (by decide) ?_
  refine Ev_istore_n dX9_serviceSum_1 (Nat.le_of_ble_eq_true rfl) (okp_of rfl) ?_
  refine Ev_iconst 0 dX9_serviceSum_2 (by decide) ?_
  refine Ev_istore_n dX9_serviceSum_3 (Nat.le_of_ble_eq_true rfl) (okp_of rfl) ?_
  refine Ev_iload_n dX9_serviceSum_4 rfl ?_
  refine Ev_istore dX9_serviceSum_5 (Nat.le_of_ble_eq_true rfl) (okp_of rfl) ?_
  refine Ev_aload_n dX9_serviceSum_7 rfl ?_
  refine Ev_getP flX9_30 rfl dX9_serviceSum_8 ?_
  refine Ev_getI flX9_175 rfl dX9_serviceSum_11 ?_
  refine Ev_iconst 1 dX9_serviceSum_14 (by decide) ?_
  refine Ev_isub dX9_serviceSum_15 ?_
  refine Ev_istore dX9_serviceSum_16 (Nat.le_of_ble_eq_true rfl) (okp_of rfl) ?_
  refine Ev_weak ?_ h
  exact And.intro rfl (And.intro trivial (And.intro rfl (And.intro rfl (And.intro rfl (And.intro rfl (And.intro trivial (trivial)))))))
set_option maxHeartbeats 4000000 in
set_option maxRecDepth 100000 in
theorem X9_serviceSum_at18_ok {d : Nat} {x2 : Int32} {x3 : Int32} {x4 : Int32} {x5 : Int32} {μ μ' : Mem} {x : Int32} (h : ((x5 < 0 → (x = x2 ∧ μ' = μ)) ∧ (¬ x5 < 0 → (((μ.1 (μ.2.2 0 4) 2) ≤ 0 → (x = x2 ∧ μ' = μ)) ∧ (¬ (μ.1 (μ.2.2 0 4) 2) ≤ 0 → ¬ (μ.1 (μ.2.2 0 4) 2) = 0 ∧ ¬ (μ.1 (μ.2.2 0 4) 2) = 0 ∧ ((((x3 >>> ((x4 - x4 / (μ.1 (μ.2.2 0 4) 2) * (μ.1 (μ.2.2 0 4) 2)) &&& 31)) &&& 1) = 0 → vp_in x5 4 ∧ (∃ (y3 : Int32) (μ1 : Mem), X3_needOf d (μ.2.2 0 4) (x4 - x4 / (μ.1 (μ.2.2 0 4) 2) * (μ.1 (μ.2.2 0 4) 2)) μ y3 μ1 ∧ X9_serviceSum_at18 d (x2 + (ab ((μ.1 213 x5.toNatClampNeg) - y3))) (x3 ||| (1 <<< ((x4 - x4 / (μ.1 (μ.2.2 0 4) 2) * (μ.1 (μ.2.2 0 4) 2)) &&& 31))) (x4 / (μ.1 (μ.2.2 0 4) 2)) (x5 + (-1)) μ1 x μ')) ∧ (¬ ((x3 >>> ((x4 - x4 / (μ.1 (μ.2.2 0 4) 2) * (μ.1 (μ.2.2 0 4) 2)) &&& 31)) &&& 1) = 0 → (x = (-1) ∧ μ' = μ)))))))) : X9_serviceSum_at18 d x2 x3 x4 x5 μ x μ' := by
  refine Ev_iload dX9_serviceSum_18 rfl ?_
  refine Ev_if_lt 104 dX9_serviceSum_20 (by decide) (fun q => ?_) (fun q => ?_)
  · have h := h.1 q
    refine Ev_iload_n dX9_serviceSum_104 rfl ?_
    obtain ⟨rfl, rfl⟩ := h
    exact R_i rfl dX9_serviceSum_105 rfl
  · have h := h.2 q
    refine Ev_aload_n dX9_serviceSum_23 rfl ?_
    refine Ev_getP flX9_30 rfl dX9_serviceSum_24 ?_
    refine Ev_getI flX9_172 rfl dX9_serviceSum_27 ?_
    refine Ev_if_le 104 dX9_serviceSum_30 (by decide) (fun q => ?_) (fun q => ?_)
    · have h := h.1 q
      refine Ev_iload_n dX9_serviceSum_104 rfl ?_
      obtain ⟨rfl, rfl⟩ := h
      exact R_i rfl dX9_serviceSum_105 rfl
    · have h := h.2 q
      refine Ev_iload dX9_serviceSum_33 rfl ?_
      refine Ev_aload_n dX9_serviceSum_35 rfl ?_
      refine Ev_getP flX9_30 rfl dX9_serviceSum_36 ?_
      refine Ev_getI flX9_172 rfl dX9_serviceSum_39 ?_
      obtain ⟨g, h⟩ := h
      refine Ev_irem dX9_serviceSum_42 g ?_
      refine Ev_istore dX9_serviceSum_43 (Nat.le_of_ble_eq_true rfl) (okp_of rfl) ?_
      refine Ev_iload dX9_serviceSum_45 rfl ?_
      refine Ev_aload_n dX9_serviceSum_47 rfl ?_
      refine Ev_getP flX9_30 rfl dX9_serviceSum_48 ?_
      refine Ev_getI flX9_172 rfl dX9_serviceSum_51 ?_
      obtain ⟨g, h⟩ := h
      refine Ev_idiv dX9_serviceSum_54 g ?_
      refine Ev_istore dX9_serviceSum_55 (Nat.le_of_ble_eq_true rfl) (okp_of rfl) ?_
      refine Ev_iload_n dX9_serviceSum_57 rfl ?_
      refine Ev_iload dX9_serviceSum_58 rfl ?_
      refine Ev_ishr dX9_serviceSum_60 ?_
      refine Ev_iconst 1 dX9_serviceSum_61 (by decide) ?_
      refine Ev_iand dX9_serviceSum_62 ?_
      refine Ev_if_eq 68 dX9_serviceSum_63 (by decide) (fun q => ?_) (fun q => ?_)
      · have h := h.1 q
        refine Ev_iload_n dX9_serviceSum_68 rfl ?_
        refine Ev_iconst 1 dX9_serviceSum_69 (by decide) ?_
        refine Ev_iload dX9_serviceSum_70 rfl ?_
        refine Ev_ishl dX9_serviceSum_72 ?_
        refine Ev_ior dX9_serviceSum_73 ?_
        refine Ev_istore_n dX9_serviceSum_74 (Nat.le_of_ble_eq_true rfl) (okp_of rfl) ?_
        refine Ev_iload_n dX9_serviceSum_75 rfl ?_
        refine Ev_aload_n dX9_serviceSum_76 rfl ?_
        refine Ev_getF 11 4 213 flX9_82 rfl dX9_serviceSum_77 ?_
        refine Ev_iload dX9_serviceSum_80 rfl ?_
        obtain ⟨g, h⟩ := h
        refine Ev_iald g dX9_serviceSum_82 ?_
        refine Ev_aload_n dX9_serviceSum_83 rfl ?_
        refine Ev_getP flX9_30 rfl dX9_serviceSum_84 ?_
        refine Ev_iload dX9_serviceSum_87 rfl ?_
        obtain ⟨y3, μ1, hM2, h⟩ := h
        refine Ev_callV [_] mlX9_141 rfl rfl (Nat.le_of_ble_eq_true rfl) dX9_serviceSum_89 hM2 ?_
        refine Ev_isub dX9_serviceSum_92 ?_
        refine Ev_mabs (ts5 74 rfl rfl) (ts5 75 rfl rfl) (ts1 17 rfl rfl) (ts5 76 rfl rfl) (Nat.le_of_ble_eq_true rfl) dX9_serviceSum_93 ?_
        refine Ev_iadd dX9_serviceSum_96 ?_
        refine Ev_istore_n dX9_serviceSum_97 (Nat.le_of_ble_eq_true rfl) (okp_of rfl) ?_
        refine Ev_iinc (x5 + (-1)) dX9_serviceSum_98 rfl rfl (okp_of rfl) ?_
        refine Ev_goto 18 dX9_serviceSum_101 (by decide) ?_
        refine Ev_weak ?_ h
        exact And.intro rfl (And.intro trivial (And.intro rfl (And.intro rfl (And.intro rfl (And.intro rfl (And.intro trivial (trivial)))))))
      · have h := h.2 q
        refine Ev_iconst (-1) dX9_serviceSum_66 (by decide) ?_
        obtain ⟨rfl, rfl⟩ := h
        exact R_i rfl dX9_serviceSum_67 rfl
set_option maxHeartbeats 4000000 in
set_option maxRecDepth 100000 in
theorem X9_stop_ok {d : Nat} {x1 : Int32} {μ μ' : Mem} {x : Int32} (h : (∃ (y3 : Int32) (μ1 : Mem), X3_hasLoom d (μ.2.2 0 4) x1 μ y3 μ1 ∧ ((y3 = 0 → (x = 0 ∧ μ' = μ1)) ∧ (¬ y3 = 0 → (∃ (y6 : Int32) (μ4 : Mem), X5_hasOrder d 13 x1 μ1 y6 μ4 ∧ ((y6 ≠ 0 → (∃ (μ7 : Mem), X2_remember d 13 μ4 μ7 ∧ (∃ (μ9 : Mem), X5_setOrder d 13 x1 (-2) (-2) (-2) (-2) μ7 μ9 ∧ (x = 1 ∧ μ' = μ9)))) ∧ (y6 = 0 → (x = 0 ∧ μ' = μ4)))))))) : X9_stop (d + 1) x1 μ x μ' := by
  refine Me_of [some (vr 9 0 0), some (vi x1)] rfl (Nat.le_of_ble_eq_true rfl) (by decide) ?_
  refine Ev_aload_n dX9_stop_0 rfl ?_
  refine Ev_getP flX9_30 rfl dX9_stop_1 ?_
  refine Ev_iload_n dX9_stop_4 rfl ?_
  obtain ⟨y3, μ1, hM2, h⟩ := h
  refine Ev_callV [_] mlX9_145 rfl rfl (Nat.le_of_ble_eq_true rfl) dX9_stop_5 hM2 ?_
  refine Ev_if_eq 22 dX9_stop_8 (by decide) (fun q => ?_) (fun q => ?_)
  · have h := h.1 q
    refine Ev_iconst 0 dX9_stop_22 (by decide) ?_
    obtain ⟨rfl, rfl⟩ := h
    exact R_i rfl dX9_stop_23 rfl
  · have h := h.2 q
    refine Ev_aload_n dX9_stop_11 rfl ?_
    refine Ev_getF 5 0 13 flX9_46 rfl dX9_stop_12 ?_
    refine Ev_iload_n dX9_stop_15 rfl ?_
    obtain ⟨y6, μ4, hM5, h⟩ := h
    refine Ev_callV [_] mlX9_217 rfl rfl (Nat.le_of_ble_eq_true rfl) dX9_stop_16 hM5 ?_
    refine Ev_if_ne 24 dX9_stop_19 (by decide) (fun q => ?_) (fun q => ?_)
    · have h := h.1 q
      refine Ev_aload_n dX9_stop_24 rfl ?_
      refine Ev_getF 2 0 23 flX9_56 rfl dX9_stop_25 ?_
      refine Ev_aload_n dX9_stop_28 rfl ?_
      refine Ev_getF 5 0 13 flX9_46 rfl dX9_stop_29 ?_
      obtain ⟨μ7, hM8, h⟩ := h
      refine Ev_callV [_] mlX9_209 rfl rfl (Nat.le_of_ble_eq_true rfl) dX9_stop_32 hM8 ?_
      refine Ev_aload_n dX9_stop_35 rfl ?_
      refine Ev_getF 5 0 13 flX9_46 rfl dX9_stop_36 ?_
      refine Ev_iload_n dX9_stop_39 rfl ?_
      refine Ev_bipush (-2) dX9_stop_40 (by decide) ?_
      refine Ev_bipush (-2) dX9_stop_42 (by decide) ?_
      refine Ev_bipush (-2) dX9_stop_44 (by decide) ?_
      refine Ev_bipush (-2) dX9_stop_46 (by decide) ?_
      obtain ⟨μ9, hM10, h⟩ := h
      refine Ev_callV [_, _, _, _, _] mlX9_213 rfl rfl (Nat.le_of_ble_eq_true rfl) dX9_stop_48 hM10 ?_
      refine Ev_iconst 1 dX9_stop_51 (by decide) ?_
      obtain ⟨rfl, rfl⟩ := h
      exact R_i rfl dX9_stop_52 rfl
    · have h := h.2 q
      refine Ev_iconst 0 dX9_stop_22 (by decide) ?_
      obtain ⟨rfl, rfl⟩ := h
      exact R_i rfl dX9_stop_23 rfl
set_option maxHeartbeats 4000000 in
set_option maxRecDepth 100000 in
theorem X9_suits_ok {d : Nat} {x1 : Int32} {x2 : Int32} {x3 : Int32} {μ μ' : Mem} {x : Int32} (h : (∃ (y3 : Int32) (μ1 : Mem), X3_hasField d (μ.2.2 0 4) x1 μ y3 μ1 ∧ ((y3 = 0 → (x = (-1) ∧ μ' = μ1)) ∧ (¬ y3 = 0 → (∃ (y6 : Int32) (μ4 : Mem), X9_isSize d x2 x3 μ1 y6 μ4 ∧ ((y6 ≠ 0 → (∃ (y9 : Int32) (μ7 : Mem), X3_needOf d (μ4.2.2 0 4) x1 μ4 y9 μ7 ∧ X9_suits_at43 d x2 x3 y9 (-2) 1000000 0 μ7 x μ')) ∧ (y6 = 0 → (x = (-1) ∧ μ' = μ4)))))))) : X9_suits (d + 1) x1 x2 x3 μ x μ' := by
  refine Me_of [some (vr 9 0 0), some (vi x1), some (vi x2), some (vi x3), none, none, none, none, none] rfl (Nat.le_of_ble_eq_true rfl) (by decide) ?_
  refine Ev_aload_n dX9_suits_0 rfl ?_
  refine Ev_getP flX9_30 rfl dX9_suits_1 ?_
  refine Ev_iload_n dX9_suits_4 rfl ?_
  obtain ⟨y3, μ1, hM2, h⟩ := h
  refine Ev_callV [_] mlX9_124 rfl rfl (Nat.le_of_ble_eq_true rfl) dX9_suits_5 hM2 ?_
  refine Ev_if_eq 19 dX9_suits_8 (by decide) (fun q => ?_) (fun q => ?_)
  · have h := h.1 q
    refine Ev_iconst (-1) dX9_suits_19 (by decide) ?_
    obtain ⟨rfl, rfl⟩ := h
    exact R_i rfl dX9_suits_20 rfl
  · have h := h.2 q
    refine Ev_iload_n dX9_suits_11 rfl ?_
    refine Ev_iload_n dX9_suits_12 rfl ?_
    obtain ⟨y6, μ4, hM5, h⟩ := h
    refine Ev_callS [_, _] mlX9_275 rfl rfl (Nat.le_of_ble_eq_true rfl) dX9_suits_13 hM5 ?_
    refine Ev_if_ne 21 dX9_suits_16 (by decide) (fun q => ?_) (fun q => ?_)
    · have h := h.1 q
      refine Ev_aload_n dX9_suits_21 rfl ?_
      refine Ev_getP flX9_30 rfl dX9_suits_22 ?_
      refine Ev_iload_n dX9_suits_25 rfl ?_
      obtain ⟨y9, μ7, hM8, h⟩ := h
      refine Ev_callV [_] mlX9_141 rfl rfl (Nat.le_of_ble_eq_true rfl) dX9_suits_26 hM8 ?_
      refine Ev_istore dX9_suits_29 (Nat.le_of_ble_eq_true rfl) (okp_of rfl) ?_
      refine Ev_bipush (-2) dX9_suits_31 (by decide) ?_
      refine Ev_istore dX9_suits_33 (Nat.le_of_ble_eq_true rfl) (okp_of rfl) ?_
      refine Ev_ldcw 1000000 dX9_suits_35 (ts5 69 rfl rfl) ?_
      refine Ev_istore dX9_suits_38 (Nat.le_of_ble_eq_true rfl) (okp_of rfl) ?_
      refine Ev_iconst 0 dX9_suits_40 (by decide) ?_
      refine Ev_istore dX9_suits_41 (Nat.le_of_ble_eq_true rfl) (okp_of rfl) ?_
      refine Ev_weak ?_ h
      exact And.intro rfl (And.intro trivial (And.intro rfl (And.intro rfl (And.intro rfl (And.intro rfl (And.intro rfl (And.intro rfl (And.intro trivial (trivial)))))))))
    · have h := h.2 q
      refine Ev_iconst (-1) dX9_suits_19 (by decide) ?_
      obtain ⟨rfl, rfl⟩ := h
      exact R_i rfl dX9_suits_20 rfl
set_option maxHeartbeats 4000000 in
set_option maxRecDepth 100000 in
theorem X9_suits_at43_ok {d : Nat} {x2 : Int32} {x3 : Int32} {x4 : Int32} {x5 : Int32} {x6 : Int32} {x7 : Int32} {μ μ' : Mem} {x : Int32} (h : (((μ.1 (μ.2.2 0 4) 3) ≤ x7 → (x = x5 ∧ μ' = μ)) ∧ (¬ (μ.1 (μ.2.2 0 4) 3) ≤ x7 → vp_in x7 4 ∧ (((μ.1 (μ.2.2 0 4 + 5) x7.toNatClampNeg) < x2 → X9_suits_at43 d x2 x3 x4 x5 x6 (x7 + 1) μ x μ') ∧ (¬ (μ.1 (μ.2.2 0 4 + 5) x7.toNatClampNeg) < x2 → (∃ (y3 : Int32) (μ1 : Mem), X9_heldBy d x7 x2 x3 μ y3 μ1 ∧ ((x6 ≤ (ab (y3 - x4)) → X9_suits_at43 d x2 x3 x4 x5 x6 (x7 + 1) μ1 x μ') ∧ (¬ x6 ≤ (ab (y3 - x4)) → X9_suits_at43 d x2 x3 x4 x7 (ab (y3 - x4)) (x7 + 1) μ1 x μ')))))))) : X9_suits_at43 d x2 x3 x4 x5 x6 x7 μ x μ' := by
  refine Ev_iload dX9_suits_43 rfl ?_
  refine Ev_aload_n dX9_suits_45 rfl ?_
  refine Ev_getP flX9_30 rfl dX9_suits_46 ?_
  refine Ev_getI flX9_175 rfl dX9_suits_49 ?_
  refine Ev_icmp_ge 106 dX9_suits_52 (by decide) (fun q => ?_) (fun q => ?_)
  · have h := h.1 q
    refine Ev_iload dX9_suits_106 rfl ?_
    obtain ⟨rfl, rfl⟩ := h
    exact R_i rfl dX9_suits_108 rfl
  · have h := h.2 q
    refine Ev_iload_n dX9_suits_55 rfl ?_
    refine Ev_aload_n dX9_suits_56 rfl ?_
    refine Ev_getP flX9_30 rfl dX9_suits_57 ?_
    refine Ev_getF 11 4 5 flX9_151 rfl dX9_suits_60 ?_
    refine Ev_iload dX9_suits_63 rfl ?_
    obtain ⟨g, h⟩ := h
    refine Ev_iald g dX9_suits_65 ?_
    refine Ev_icmp_gt 100 dX9_suits_66 (by decide) (fun q => ?_) (fun q => ?_)
    · have h := h.1 q
      refine Ev_iinc (x7 + 1) dX9_suits_100 rfl rfl (okp_of rfl) ?_
      refine Ev_goto 43 dX9_suits_103 (by decide) ?_
      exact h
    · have h := h.2 q
      refine Ev_aload_n dX9_suits_69 rfl ?_
      refine Ev_iload dX9_suits_70 rfl ?_
      refine Ev_iload_n dX9_suits_72 rfl ?_
      refine Ev_iload_n dX9_suits_73 rfl ?_
      obtain ⟨y3, μ1, hM2, h⟩ := h
      refine Ev_callV [_, _, _] mlX9_281 rfl rfl (Nat.le_of_ble_eq_true rfl) dX9_suits_74 hM2 ?_
      refine Ev_iload dX9_suits_77 rfl ?_
      refine Ev_isub dX9_suits_79 ?_
      refine Ev_mabs (ts5 74 rfl rfl) (ts5 75 rfl rfl) (ts1 17 rfl rfl) (ts5 76 rfl rfl) (Nat.le_of_ble_eq_true rfl) dX9_suits_80 ?_
      refine Ev_istore dX9_suits_83 (Nat.le_of_ble_eq_true rfl) (okp_of rfl) ?_
      refine Ev_iload dX9_suits_85 rfl ?_
      refine Ev_iload dX9_suits_87 rfl ?_
      refine Ev_icmp_ge 100 dX9_suits_89 (by decide) (fun q => ?_) (fun q => ?_)
      · have h := h.1 q
        refine Ev_iinc (x7 + 1) dX9_suits_100 rfl rfl (okp_of rfl) ?_
        refine Ev_goto 43 dX9_suits_103 (by decide) ?_
        refine Ev_weak ?_ h
        exact And.intro rfl (And.intro trivial (And.intro rfl (And.intro rfl (And.intro rfl (And.intro rfl (And.intro rfl (And.intro rfl (And.intro trivial (trivial)))))))))
      · have h := h.2 q
        refine Ev_iload dX9_suits_92 rfl ?_
        refine Ev_istore dX9_suits_94 (Nat.le_of_ble_eq_true rfl) (okp_of rfl) ?_
        refine Ev_iload dX9_suits_96 rfl ?_
        refine Ev_istore dX9_suits_98 (Nat.le_of_ble_eq_true rfl) (okp_of rfl) ?_
        refine Ev_iinc (x7 + 1) dX9_suits_100 rfl rfl (okp_of rfl) ?_
        refine Ev_goto 43 dX9_suits_103 (by decide) ?_
        refine Ev_weak ?_ h
        exact And.intro rfl (And.intro trivial (And.intro rfl (And.intro rfl (And.intro rfl (And.intro rfl (And.intro rfl (And.intro rfl (And.intro trivial (trivial)))))))))
set_option maxHeartbeats 4000000 in
set_option maxRecDepth 100000 in
theorem X9_tell_ok {d : Nat} {x1 : Int32} {x2 : Int32} {x3 : Int32} {μ μ' : Mem} {x : Int32} (h : (∃ (y3 : Int32) (μ1 : Mem), X3_hasCell d (μ.2.2 0 4) x1 x2 μ y3 μ1 ∧ ((y3 = 0 → (x = (-1) ∧ μ' = μ1)) ∧ (¬ y3 = 0 → ((x3 < 0 → (x = (-1) ∧ μ' = μ1)) ∧ (¬ x3 < 0 → ((x3 ≤ 999 → (∃ (y6 : Int32) (μ4 : Mem), X8_add d x1 x2 x3 μ1 y6 μ4 ∧ (x = y6 ∧ μ' = μ4))) ∧ (¬ x3 ≤ 999 → (x = (-1) ∧ μ' = μ1))))))))) : X9_tell (d + 1) x1 x2 x3 μ x μ' := by
  refine Me_of [some (vr 9 0 0), some (vi x1), some (vi x2), some (vi x3)] rfl (Nat.le_of_ble_eq_true rfl) (by decide) ?_
  refine Ev_aload_n dX9_tell_0 rfl ?_
  refine Ev_getP flX9_30 rfl dX9_tell_1 ?_
  refine Ev_iload_n dX9_tell_4 rfl ?_
  refine Ev_iload_n dX9_tell_5 rfl ?_
  obtain ⟨y3, μ1, hM2, h⟩ := h
  refine Ev_callV [_, _] mlX9_107 rfl rfl (Nat.le_of_ble_eq_true rfl) dX9_tell_6 hM2 ?_
  refine Ev_if_eq 23 dX9_tell_9 (by decide) (fun q => ?_) (fun q => ?_)
  · have h := h.1 q
    refine Ev_iconst (-1) dX9_tell_23 (by decide) ?_
    obtain ⟨rfl, rfl⟩ := h
    exact R_i rfl dX9_tell_24 rfl
  · have h := h.2 q
    refine Ev_iload_n dX9_tell_12 rfl ?_
    refine Ev_if_lt 23 dX9_tell_13 (by decide) (fun q => ?_) (fun q => ?_)
    · have h := h.1 q
      refine Ev_iconst (-1) dX9_tell_23 (by decide) ?_
      obtain ⟨rfl, rfl⟩ := h
      exact R_i rfl dX9_tell_24 rfl
    · have h := h.2 q
      refine Ev_iload_n dX9_tell_16 rfl ?_
      refine Ev_sipush 999 dX9_tell_17 (by decide) ?_
      refine Ev_icmp_le 25 dX9_tell_20 (by decide) (fun q => ?_) (fun q => ?_)
      · have h := h.1 q
        refine Ev_aload_n dX9_tell_25 rfl ?_
        refine Ev_getF 8 0 192 flX9_71 rfl dX9_tell_26 ?_
        refine Ev_iload_n dX9_tell_29 rfl ?_
        refine Ev_iload_n dX9_tell_30 rfl ?_
        refine Ev_iload_n dX9_tell_31 rfl ?_
        obtain ⟨y6, μ4, hM5, h⟩ := h
        refine Ev_callV [_, _, _] mlX9_308 rfl rfl (Nat.le_of_ble_eq_true rfl) dX9_tell_32 hM5 ?_
        obtain ⟨rfl, rfl⟩ := h
        exact R_i rfl dX9_tell_35 rfl
      · have h := h.2 q
        refine Ev_iconst (-1) dX9_tell_23 (by decide) ?_
        obtain ⟨rfl, rfl⟩ := h
        exact R_i rfl dX9_tell_24 rfl
set_option maxHeartbeats 4000000 in
set_option maxRecDepth 100000 in
theorem X9_then_ok {d : Nat} {x1 : Int32} {x2 : Int32} {x3 : Int32} {μ μ' : Mem} {x : Int32} (h : (∃ (y3 : Int32) (μ1 : Mem), X3_hasCell d (μ.2.2 0 4) x1 x2 μ y3 μ1 ∧ ((y3 = 0 → (x = (-1) ∧ μ' = μ1)) ∧ (¬ y3 = 0 → (∃ (y6 : Int32) (μ4 : Mem), X9_isAhead d x3 μ1 y6 μ4 ∧ ((y6 ≠ 0 → (∃ (y9 : Nat) (μ7 : Mem), X5_copy d 18 13 μ4 y9 μ7 ∧ (∃ (μ10 : Mem), X7_passDays d y9 x3 (μ7.1 (μ7.2.2 0 4) 6) μ7 μ10 ∧ (∃ (y14 : Int32) (μ12 : Mem), X5_waterAt d 18 x1 x2 μ10 y14 μ12 ∧ (x = y14 ∧ μ' = μ12))))) ∧ (y6 = 0 → (x = (-1) ∧ μ' = μ4)))))))) : X9_then (d + 1) x1 x2 x3 μ x μ' := by
  refine Me_of [some (vr 9 0 0), some (vi x1), some (vi x2), some (vi x3)] rfl (Nat.le_of_ble_eq_true rfl) (by decide) ?_
  refine Ev_aload_n dX9_then_0 rfl ?_
  refine Ev_getP flX9_30 rfl dX9_then_1 ?_
  refine Ev_iload_n dX9_then_4 rfl ?_
  refine Ev_iload_n dX9_then_5 rfl ?_
  obtain ⟨y3, μ1, hM2, h⟩ := h
  refine Ev_callV [_, _] mlX9_107 rfl rfl (Nat.le_of_ble_eq_true rfl) dX9_then_6 hM2 ?_
  refine Ev_if_eq 19 dX9_then_9 (by decide) (fun q => ?_) (fun q => ?_)
  · have h := h.1 q
    refine Ev_iconst (-1) dX9_then_19 (by decide) ?_
    obtain ⟨rfl, rfl⟩ := h
    exact R_i rfl dX9_then_20 rfl
  · have h := h.2 q
    refine Ev_iload_n dX9_then_12 rfl ?_
    obtain ⟨y6, μ4, hM5, h⟩ := h
    refine Ev_callS [_] mlX9_298 rfl rfl (Nat.le_of_ble_eq_true rfl) dX9_then_13 hM5 ?_
    refine Ev_if_ne 21 dX9_then_16 (by decide) (fun q => ?_) (fun q => ?_)
    · have h := h.1 q
      refine Ev_aload_n dX9_then_21 rfl ?_
      refine Ev_getF 7 0 9 flX9_39 rfl dX9_then_22 ?_
      refine Ev_aload_n dX9_then_25 rfl ?_
      refine Ev_getF 5 0 18 flX9_50 rfl dX9_then_26 ?_
      refine Ev_aload_n dX9_then_29 rfl ?_
      refine Ev_getF 5 0 13 flX9_46 rfl dX9_then_30 ?_
      obtain ⟨y9, μ7, hM8, h⟩ := h
      refine Ev_callV [_] mlX9_301 rfl rfl (Nat.le_of_ble_eq_true rfl) dX9_then_33 hM8 ?_
      refine Ev_iload_n dX9_then_36 rfl ?_
      refine Ev_aload_n dX9_then_37 rfl ?_
      refine Ev_getP flX9_30 rfl dX9_then_38 ?_
      refine Ev_getI flX9_228 rfl dX9_then_41 ?_
      obtain ⟨μ10, hM11, h⟩ := h
      refine Ev_callV [_, _, _] mlX9_231 rfl rfl (Nat.le_of_ble_eq_true rfl) dX9_then_44 hM11 ?_
      refine Ev_aload_n dX9_then_47 rfl ?_
      refine Ev_getF 5 0 18 flX9_50 rfl dX9_then_48 ?_
      refine Ev_iload_n dX9_then_51 rfl ?_
      refine Ev_iload_n dX9_then_52 rfl ?_
      obtain ⟨y14, μ12, hM13, h⟩ := h
      refine Ev_callV [_, _] mlX9_115 rfl rfl (Nat.le_of_ble_eq_true rfl) dX9_then_53 hM13 ?_
      obtain ⟨rfl, rfl⟩ := h
      exact R_i rfl dX9_then_56 rfl
    · have h := h.2 q
      refine Ev_iconst (-1) dX9_then_19 (by decide) ?_
      obtain ⟨rfl, rfl⟩ := h
      exact R_i rfl dX9_then_20 rfl
set_option maxHeartbeats 4000000 in
set_option maxRecDepth 100000 in
theorem X9_thread_ok {d : Nat} {x1 : Int32} {x2 : Int32} {x3 : Int32} {μ μ' : Mem} {x : Int32} (h : (∃ (y3 : Int32) (μ1 : Mem), X3_hasLoom d (μ.2.2 0 4) x1 μ y3 μ1 ∧ ((y3 = 0 → (x = (-1) ∧ μ' = μ1)) ∧ (¬ y3 = 0 → ((x2 < 0 → (x = (-1) ∧ μ' = μ1)) ∧ (¬ x2 < 0 → vp_in x1 4 ∧ (((μ1.1 (μ1.2.2 0 4 + 5) x1.toNatClampNeg) ≤ x2 → (x = (-1) ∧ μ' = μ1)) ∧ (¬ (μ1.1 (μ1.2.2 0 4 + 5) x1.toNatClampNeg) ≤ x2 → ((x3 < 0 → (x = (-1) ∧ μ' = μ1)) ∧ (¬ x3 < 0 → ((x3 ≤ 9999 → (∃ (y6 : Int32) (μ4 : Mem), X7_rowAt d x1 x3 μ1 y6 μ4 ∧ (∃ (y9 : Int32) (μ7 : Mem), X7_threadOf d y6 x2 μ4 y9 μ7 ∧ (x = y9 ∧ μ' = μ7)))) ∧ (¬ x3 ≤ 9999 → (x = (-1) ∧ μ' = μ1))))))))))))) : X9_thread (d + 1) x1 x2 x3 μ x μ' := by
  refine Me_of [some (vr 9 0 0), some (vi x1), some (vi x2), some (vi x3)] rfl (Nat.le_of_ble_eq_true rfl) (by decide) ?_
  refine Ev_aload_n dX9_thread_0 rfl ?_
  refine Ev_getP flX9_30 rfl dX9_thread_1 ?_
  refine Ev_iload_n dX9_thread_4 rfl ?_
  obtain ⟨y3, μ1, hM2, h⟩ := h
  refine Ev_callV [_] mlX9_145 rfl rfl (Nat.le_of_ble_eq_true rfl) dX9_thread_5 hM2 ?_
  refine Ev_if_eq 39 dX9_thread_8 (by decide) (fun q => ?_) (fun q => ?_)
  · have h := h.1 q
    refine Ev_iconst (-1) dX9_thread_39 (by decide) ?_
    obtain ⟨rfl, rfl⟩ := h
    exact R_i rfl dX9_thread_40 rfl
  · have h := h.2 q
    refine Ev_iload_n dX9_thread_11 rfl ?_
    refine Ev_if_lt 39 dX9_thread_12 (by decide) (fun q => ?_) (fun q => ?_)
    · have h := h.1 q
      refine Ev_iconst (-1) dX9_thread_39 (by decide) ?_
      obtain ⟨rfl, rfl⟩ := h
      exact R_i rfl dX9_thread_40 rfl
    · have h := h.2 q
      refine Ev_iload_n dX9_thread_15 rfl ?_
      refine Ev_aload_n dX9_thread_16 rfl ?_
      refine Ev_getP flX9_30 rfl dX9_thread_17 ?_
      refine Ev_getF 11 4 5 flX9_151 rfl dX9_thread_20 ?_
      refine Ev_iload_n dX9_thread_23 rfl ?_
      obtain ⟨g, h⟩ := h
      refine Ev_iald g dX9_thread_24 ?_
      refine Ev_icmp_ge 39 dX9_thread_25 (by decide) (fun q => ?_) (fun q => ?_)
      · have h := h.1 q
        refine Ev_iconst (-1) dX9_thread_39 (by decide) ?_
        obtain ⟨rfl, rfl⟩ := h
        exact R_i rfl dX9_thread_40 rfl
      · have h := h.2 q
        refine Ev_iload_n dX9_thread_28 rfl ?_
        refine Ev_if_lt 39 dX9_thread_29 (by decide) (fun q => ?_) (fun q => ?_)
        · have h := h.1 q
          refine Ev_iconst (-1) dX9_thread_39 (by decide) ?_
          obtain ⟨rfl, rfl⟩ := h
          exact R_i rfl dX9_thread_40 rfl
        · have h := h.2 q
          refine Ev_iload_n dX9_thread_32 rfl ?_
          refine Ev_sipush 9999 dX9_thread_33 (by decide) ?_
          refine Ev_icmp_le 41 dX9_thread_36 (by decide) (fun q => ?_) (fun q => ?_)
          · have h := h.1 q
            refine Ev_aload_n dX9_thread_41 rfl ?_
            refine Ev_getF 7 0 9 flX9_39 rfl dX9_thread_42 ?_
            refine Ev_iload_n dX9_thread_45 rfl ?_
            refine Ev_iload_n dX9_thread_46 rfl ?_
            obtain ⟨y6, μ4, hM5, h⟩ := h
            refine Ev_callV [_, _] mlX9_154 rfl rfl (Nat.le_of_ble_eq_true rfl) dX9_thread_47 hM5 ?_
            refine Ev_iload_n dX9_thread_50 rfl ?_
            obtain ⟨y9, μ7, hM8, h⟩ := h
            refine Ev_callS [_, _] mlX9_157 rfl rfl (Nat.le_of_ble_eq_true rfl) dX9_thread_51 hM8 ?_
            obtain ⟨rfl, rfl⟩ := h
            exact R_i rfl dX9_thread_54 rfl
          · have h := h.2 q
            refine Ev_iconst (-1) dX9_thread_39 (by decide) ?_
            obtain ⟨rfl, rfl⟩ := h
            exact R_i rfl dX9_thread_40 rfl
set_option maxHeartbeats 4000000 in
set_option maxRecDepth 100000 in
theorem X9_turn_ok {d : Nat} {x1 : Int32} {x2 : Int32} {μ μ' : Mem} {x : Int32} (h : (∃ (y3 : Int32) (μ1 : Mem), X3_hasLoom d (μ.2.2 0 4) x1 μ y3 μ1 ∧ ((y3 = 0 → (x = (-1) ∧ μ' = μ1)) ∧ (¬ y3 = 0 → ((x2 < 1 → (x = (-1) ∧ μ' = μ1)) ∧ (¬ x2 < 1 → ((x2 ≤ 99 → (∃ (μ4 : Mem), X2_remember d 13 μ1 μ4 ∧ (∃ (μ6 : Mem), X5_addPart d 13 x1 1 x2 μ4 μ6 ∧ (∃ (y10 : Int32) (μ8 : Mem), X5_part d 13 x1 1 μ6 y10 μ8 ∧ (x = y10 ∧ μ' = μ8))))) ∧ (¬ x2 ≤ 99 → (x = (-1) ∧ μ' = μ1))))))))) : X9_turn (d + 1) x1 x2 μ x μ' := by
  refine Me_of [some (vr 9 0 0), some (vi x1), some (vi x2)] rfl (Nat.le_of_ble_eq_true rfl) (by decide) ?_
  refine Ev_aload_n dX9_turn_0 rfl ?_
  refine Ev_getP flX9_30 rfl dX9_turn_1 ?_
  refine Ev_iload_n dX9_turn_4 rfl ?_
  obtain ⟨y3, μ1, hM2, h⟩ := h
  refine Ev_callV [_] mlX9_145 rfl rfl (Nat.le_of_ble_eq_true rfl) dX9_turn_5 hM2 ?_
  refine Ev_if_eq 22 dX9_turn_8 (by decide) (fun q => ?_) (fun q => ?_)
  · have h := h.1 q
    refine Ev_iconst (-1) dX9_turn_22 (by decide) ?_
    obtain ⟨rfl, rfl⟩ := h
    exact R_i rfl dX9_turn_23 rfl
  · have h := h.2 q
    refine Ev_iload_n dX9_turn_11 rfl ?_
    refine Ev_iconst 1 dX9_turn_12 (by decide) ?_
    refine Ev_icmp_lt 22 dX9_turn_13 (by decide) (fun q => ?_) (fun q => ?_)
    · have h := h.1 q
      refine Ev_iconst (-1) dX9_turn_22 (by decide) ?_
      obtain ⟨rfl, rfl⟩ := h
      exact R_i rfl dX9_turn_23 rfl
    · have h := h.2 q
      refine Ev_iload_n dX9_turn_16 rfl ?_
      refine Ev_bipush 99 dX9_turn_17 (by decide) ?_
      refine Ev_icmp_le 24 dX9_turn_19 (by decide) (fun q => ?_) (fun q => ?_)
      · have h := h.1 q
        refine Ev_aload_n dX9_turn_24 rfl ?_
        refine Ev_getF 2 0 23 flX9_56 rfl dX9_turn_25 ?_
        refine Ev_aload_n dX9_turn_28 rfl ?_
        refine Ev_getF 5 0 13 flX9_46 rfl dX9_turn_29 ?_
        obtain ⟨μ4, hM5, h⟩ := h
        refine Ev_callV [_] mlX9_209 rfl rfl (Nat.le_of_ble_eq_true rfl) dX9_turn_32 hM5 ?_
        refine Ev_aload_n dX9_turn_35 rfl ?_
        refine Ev_getF 5 0 13 flX9_46 rfl dX9_turn_36 ?_
        refine Ev_iload_n dX9_turn_39 rfl ?_
        refine Ev_iconst 1 dX9_turn_40 (by decide) ?_
        refine Ev_iload_n dX9_turn_41 rfl ?_
        obtain ⟨μ6, hM7, h⟩ := h
        refine Ev_callV [_, _, _] mlX9_224 rfl rfl (Nat.le_of_ble_eq_true rfl) dX9_turn_42 hM7 ?_
        refine Ev_aload_n dX9_turn_45 rfl ?_
        refine Ev_getF 5 0 13 flX9_46 rfl dX9_turn_46 ?_
        refine Ev_iload_n dX9_turn_49 rfl ?_
        refine Ev_iconst 1 dX9_turn_50 (by decide) ?_
        obtain ⟨y10, μ8, hM9, h⟩ := h
        refine Ev_callV [_, _] mlX9_148 rfl rfl (Nat.le_of_ble_eq_true rfl) dX9_turn_51 hM9 ?_
        obtain ⟨rfl, rfl⟩ := h
        exact R_i rfl dX9_turn_54 rfl
      · have h := h.2 q
        refine Ev_iconst (-1) dX9_turn_22 (by decide) ?_
        obtain ⟨rfl, rfl⟩ := h
        exact R_i rfl dX9_turn_23 rfl
set_option maxHeartbeats 4000000 in
set_option maxRecDepth 100000 in
theorem X9_undo_ok {d : Nat}  {μ μ' : Mem} {x : Int32} (h : (∃ (y3 : Int32) (μ1 : Mem), X2_takeBack d 13 μ y3 μ1 ∧ (isB y3 ∧ x = y3 ∧ μ' = μ1))) : X9_undo (d + 1) μ x μ' := by
  refine Me_of [some (vr 9 0 0)] rfl (Nat.le_of_ble_eq_true rfl) (by decide) ?_
  refine Ev_aload_n dX9_undo_0 rfl ?_
  refine Ev_getF 2 0 23 flX9_56 rfl dX9_undo_1 ?_
  refine Ev_aload_n dX9_undo_4 rfl ?_
  refine Ev_getF 5 0 13 flX9_46 rfl dX9_undo_5 ?_
  obtain ⟨y3, μ1, hM2, h⟩ := h
  refine Ev_callV [_] mlX9_235 rfl rfl (Nat.le_of_ble_eq_true rfl) dX9_undo_8 hM2 ?_
  obtain ⟨g, rfl, rfl⟩ := h
  exact R_i rfl dX9_undo_11 (isB_nar g)
set_option maxHeartbeats 4000000 in
set_option maxRecDepth 100000 in
theorem X9_weaveWhole_ok {d : Nat} {x1 : Int32} {x2 : Int32} {x3 : Int32} {μ μ' : Mem} (h : (∃ (y3 : Int32) (μ1 : Mem), X5_part d 13 x1 1 μ y3 μ1 ∧ (∃ (μ4 : Mem), X7_weave d x1 y3 x2 x3 9999 μ1 μ4 ∧ μ' = μ4))) : X9_weaveWhole (d + 1) x1 x2 x3 μ μ' := by
  refine Me_of [some (vr 9 0 0), some (vi x1), some (vi x2), some (vi x3)] rfl (Nat.le_of_ble_eq_true rfl) (by decide) ?_
  refine Ev_aload_n dX9_weaveWhole_0 rfl ?_
  refine Ev_getF 7 0 9 flX9_39 rfl dX9_weaveWhole_1 ?_
  refine Ev_iload_n dX9_weaveWhole_4 rfl ?_
  refine Ev_aload_n dX9_weaveWhole_5 rfl ?_
  refine Ev_getF 5 0 13 flX9_46 rfl dX9_weaveWhole_6 ?_
  refine Ev_iload_n dX9_weaveWhole_9 rfl ?_
  refine Ev_iconst 1 dX9_weaveWhole_10 (by decide) ?_
  obtain ⟨y3, μ1, hM2, h⟩ := h
  refine Ev_callV [_, _] mlX9_148 rfl rfl (Nat.le_of_ble_eq_true rfl) dX9_weaveWhole_11 hM2 ?_
  refine Ev_iload_n dX9_weaveWhole_14 rfl ?_
  refine Ev_iload_n dX9_weaveWhole_15 rfl ?_
  refine Ev_sipush 9999 dX9_weaveWhole_16 (by decide) ?_
  obtain ⟨μ4, hM5, h⟩ := h
  refine Ev_callV [_, _, _, _, _] mlX9_247 rfl rfl (Nat.le_of_ble_eq_true rfl) dX9_weaveWhole_19 hM5 ?_
  subst h
  exact R_v rfl dX9_weaveWhole_22
set_option maxHeartbeats 4000000 in
set_option maxRecDepth 100000 in
theorem X9_wettest_ok {d : Nat} {x1 : Int32} {x2 : Int32} {μ μ' : Mem} {x : Int32} (h : (∃ (y3 : Int32) (μ1 : Mem), X9_isAhead d x1 μ y3 μ1 ∧ ((y3 = 0 → (x = (-1) ∧ μ' = μ1)) ∧ (¬ y3 = 0 → ((x2 < 0 → (x = (-1) ∧ μ' = μ1)) ∧ (¬ x2 < 0 → ((x2 ≤ 2 → (∃ (y6 : Int32) (μ4 : Mem), X3_hasCell d (μ1.2.2 0 4) 0 0 μ1 y6 μ4 ∧ ((y6 ≠ 0 → (∃ (y9 : Nat) (μ7 : Mem), X5_copy d 18 13 μ4 y9 μ7 ∧ (∃ (μ10 : Mem), X7_passDays d y9 x1 (μ7.1 (μ7.2.2 0 4) 6) μ7 μ10 ∧ X9_wettest_at64 d x2 0 1 μ10 x μ'))) ∧ (y6 = 0 → (x = (-2) ∧ μ' = μ4))))) ∧ (¬ x2 ≤ 2 → (x = (-1) ∧ μ' = μ1))))))))) : X9_wettest (d + 1) x1 x2 μ x μ' := by
  refine Me_of [some (vr 9 0 0), some (vi x1), some (vi x2), none, none] rfl (Nat.le_of_ble_eq_true rfl) (by decide) ?_
  refine Ev_iload_n dX9_wettest_0 rfl ?_
  obtain ⟨y3, μ1, hM2, h⟩ := h
  refine Ev_callS [_] mlX9_298 rfl rfl (Nat.le_of_ble_eq_true rfl) dX9_wettest_1 hM2 ?_
  refine Ev_if_eq 16 dX9_wettest_4 (by decide) (fun q => ?_) (fun q => ?_)
  · have h := h.1 q
    refine Ev_iconst (-1) dX9_wettest_16 (by decide) ?_
    obtain ⟨rfl, rfl⟩ := h
    exact R_i rfl dX9_wettest_17 rfl
  · have h := h.2 q
    refine Ev_iload_n dX9_wettest_7 rfl ?_
    refine Ev_if_lt 16 dX9_wettest_8 (by decide) (fun q => ?_) (fun q => ?_)
    · have h := h.1 q
      refine Ev_iconst (-1) dX9_wettest_16 (by decide) ?_
      obtain ⟨rfl, rfl⟩ := h
      exact R_i rfl dX9_wettest_17 rfl
    · have h := h.2 q
      refine Ev_iload_n dX9_wettest_11 rfl ?_
      refine Ev_iconst 2 dX9_wettest_12 (by decide) ?_
      refine Ev_icmp_le 18 dX9_wettest_13 (by decide) (fun q => ?_) (fun q => ?_)
      · have h := h.1 q
        refine Ev_aload_n dX9_wettest_18 rfl ?_
        refine Ev_getP flX9_30 rfl dX9_wettest_19 ?_
        refine Ev_iconst 0 dX9_wettest_22 (by decide) ?_
        refine Ev_iconst 0 dX9_wettest_23 (by decide) ?_
        obtain ⟨y6, μ4, hM5, h⟩ := h
        refine Ev_callV [_, _] mlX9_107 rfl rfl (Nat.le_of_ble_eq_true rfl) dX9_wettest_24 hM5 ?_
        refine Ev_if_ne 33 dX9_wettest_27 (by decide) (fun q => ?_) (fun q => ?_)
        · have h := h.1 q
          refine Ev_aload_n dX9_wettest_33 rfl ?_
          refine Ev_getF 7 0 9 flX9_39 rfl dX9_wettest_34 ?_
          refine Ev_aload_n dX9_wettest_37 rfl ?_
          refine Ev_getF 5 0 18 flX9_50 rfl dX9_wettest_38 ?_
          refine Ev_aload_n dX9_wettest_41 rfl ?_
          refine Ev_getF 5 0 13 flX9_46 rfl dX9_wettest_42 ?_
          obtain ⟨y9, μ7, hM8, h⟩ := h
          refine Ev_callV [_] mlX9_301 rfl rfl (Nat.le_of_ble_eq_true rfl) dX9_wettest_45 hM8 ?_
          refine Ev_iload_n dX9_wettest_48 rfl ?_
          refine Ev_aload_n dX9_wettest_49 rfl ?_
          refine Ev_getP flX9_30 rfl dX9_wettest_50 ?_
          refine Ev_getI flX9_228 rfl dX9_wettest_53 ?_
          obtain ⟨μ10, hM11, h⟩ := h
          refine Ev_callV [_, _, _] mlX9_231 rfl rfl (Nat.le_of_ble_eq_true rfl) dX9_wettest_56 hM11 ?_
          refine Ev_iconst 0 dX9_wettest_59 (by decide) ?_
          refine Ev_istore_n dX9_wettest_60 (Nat.le_of_ble_eq_true rfl) (okp_of rfl) ?_
          refine Ev_iconst 1 dX9_wettest_61 (by decide) ?_
          refine Ev_istore dX9_wettest_62 (Nat.le_of_ble_eq_true rfl) (okp_of rfl) ?_
          refine Ev_weak ?_ h
          exact And.intro rfl (And.intro trivial (And.intro rfl (And.intro rfl (And.intro rfl (trivial)))))
        · have h := h.2 q
          refine Ev_bipush (-2) dX9_wettest_30 (by decide) ?_
          obtain ⟨rfl, rfl⟩ := h
          exact R_i rfl dX9_wettest_32 rfl
      · have h := h.2 q
        refine Ev_iconst (-1) dX9_wettest_16 (by decide) ?_
        obtain ⟨rfl, rfl⟩ := h
        exact R_i rfl dX9_wettest_17 rfl
set_option maxHeartbeats 4000000 in
set_option maxRecDepth 100000 in
theorem X9_wettest_at64_ok {d : Nat} {x2 : Int32} {x3 : Int32} {x4 : Int32} {μ μ' : Mem} {x : Int32} (h : ((48 ≤ x4 → ((x2 ≠ 0 → ((x2 ≠ 1 → (x = x3 / 8 ∧ μ' = μ)) ∧ (x2 = 1 → (x = x3 - x3 / 8 * 8 ∧ μ' = μ)))) ∧ (x2 = 0 → vp_in x3 48 ∧ (x = μ.1 19 x3.toNatClampNeg ∧ μ' = μ)))) ∧ (¬ 48 ≤ x4 → vp_in x4 48 ∧ vp_in x3 48 ∧ (((μ.1 19 x4.toNatClampNeg) ≤ (μ.1 19 x3.toNatClampNeg) → X9_wettest_at64 d x2 x3 (x4 + 1) μ x μ') ∧ (¬ (μ.1 19 x4.toNatClampNeg) ≤ (μ.1 19 x3.toNatClampNeg) → X9_wettest_at64 d x2 x4 (x4 + 1) μ x μ'))))) : X9_wettest_at64 d x2 x3 x4 μ x μ' := by
  refine Ev_iload dX9_wettest_64 rfl ?_
  refine Ev_bipush 48 dX9_wettest_66 (by decide) ?_
  refine Ev_icmp_ge 102 dX9_wettest_68 (by decide) (fun q => ?_) (fun q => ?_)
  · have h := h.1 q
    refine Ev_iload_n dX9_wettest_102 rfl ?_
    refine Ev_if_ne 118 dX9_wettest_103 (by decide) (fun q => ?_) (fun q => ?_)
    · have h := h.1 q
      refine Ev_iload_n dX9_wettest_118 rfl ?_
      refine Ev_iconst 1 dX9_wettest_119 (by decide) ?_
      refine Ev_icmp_ne 130 dX9_wettest_120 (by decide) (fun q => ?_) (fun q => ?_)
      · have h := h.1 q
        refine Ev_iload_n dX9_wettest_130 rfl ?_
        refine Ev_bipush 8 dX9_wettest_131 (by decide) ?_
        refine Ev_idiv dX9_wettest_133 (by decide) ?_
        obtain ⟨rfl, rfl⟩ := h
        exact R_i rfl dX9_wettest_134 rfl
      · have h := h.2 q
        refine Ev_iload_n dX9_wettest_123 rfl ?_
        refine Ev_bipush 8 dX9_wettest_124 (by decide) ?_
        refine Ev_irem dX9_wettest_126 (by decide) ?_
        refine Ev_goto 134 dX9_wettest_127 (by decide) ?_
        obtain ⟨rfl, rfl⟩ := h
        exact R_i rfl dX9_wettest_134 rfl
    · have h := h.2 q
      refine Ev_aload_n dX9_wettest_106 rfl ?_
      refine Ev_getF 5 0 18 flX9_50 rfl dX9_wettest_107 ?_
      refine Ev_getF 11 48 1 flX9_160 rfl dX9_wettest_110 ?_
      refine Ev_iload_n dX9_wettest_113 rfl ?_
      obtain ⟨g, h⟩ := h
      refine Ev_iald g dX9_wettest_114 ?_
      refine Ev_goto 134 dX9_wettest_115 (by decide) ?_
      obtain ⟨rfl, rfl⟩ := h
      exact R_i rfl dX9_wettest_134 rfl
  · have h := h.2 q
    refine Ev_aload_n dX9_wettest_71 rfl ?_
    refine Ev_getF 5 0 18 flX9_50 rfl dX9_wettest_72 ?_
    refine Ev_getF 11 48 1 flX9_160 rfl dX9_wettest_75 ?_
    refine Ev_iload dX9_wettest_78 rfl ?_
    obtain ⟨g, h⟩ := h
    refine Ev_iald g dX9_wettest_80 ?_
    refine Ev_aload_n dX9_wettest_81 rfl ?_
    refine Ev_getF 5 0 18 flX9_50 rfl dX9_wettest_82 ?_
    refine Ev_getF 11 48 1 flX9_160 rfl dX9_wettest_85 ?_
    refine Ev_iload_n dX9_wettest_88 rfl ?_
    obtain ⟨g, h⟩ := h
    refine Ev_iald g dX9_wettest_89 ?_
    refine Ev_icmp_le 96 dX9_wettest_90 (by decide) (fun q => ?_) (fun q => ?_)
    · have h := h.1 q
      refine Ev_iinc (x4 + 1) dX9_wettest_96 rfl rfl (okp_of rfl) ?_
      refine Ev_goto 64 dX9_wettest_99 (by decide) ?_
      exact h
    · have h := h.2 q
      refine Ev_iload dX9_wettest_93 rfl ?_
      refine Ev_istore_n dX9_wettest_95 (Nat.le_of_ble_eq_true rfl) (okp_of rfl) ?_
      refine Ev_iinc (x4 + 1) dX9_wettest_96 rfl rfl (okp_of rfl) ?_
      refine Ev_goto 64 dX9_wettest_99 (by decide) ?_
      exact h
set_option maxHeartbeats 4000000 in
set_option maxRecDepth 100000 in
theorem X9_where_ok {d : Nat} {x1 : Int32} {x2 : Int32} {x3 : Int32} {x4 : Int32} {μ μ' : Mem} {x : Int32} (h : (∃ (y3 : Int32) (μ1 : Mem), X9_isPiece d x1 x2 x3 μ y3 μ1 ∧ ((y3 = 0 → (x = (-1000) ∧ μ' = μ1)) ∧ (¬ y3 = 0 → ((x4 < 0 → (x = (-1000) ∧ μ' = μ1)) ∧ (¬ x4 < 0 → ((2 < x4 → (x = (-1000) ∧ μ' = μ1)) ∧ (¬ 2 < x4 → (((μ1.1 (μ1.2.2 0 4) 0) < x2 → (x = (-1000) ∧ μ' = μ1)) ∧ (¬ (μ1.1 (μ1.2.2 0 4) 0) < x2 → ((x3 ≤ (μ1.1 (μ1.2.2 0 4) 1) → (∃ (y6 : Int32) (μ4 : Mem), X5_part d 13 x1 1 μ1 y6 μ4 ∧ (∃ (μ7 : Mem), X7_weave d x1 y6 x2 x3 (μ4.1 13 1) μ4 μ7 ∧ X9_where_at87 d x2 x3 x4 (-1000) 0 0 0 μ7 x μ'))) ∧ (¬ x3 ≤ (μ1.1 (μ1.2.2 0 4) 1) → (x = (-1000) ∧ μ' = μ1))))))))))))) : X9_where (d + 1) x1 x2 x3 x4 μ x μ' := by
  refine Me_of [some (vr 9 0 0), some (vi x1), some (vi x2), some (vi x3), some (vi x4), none, none, none, none, none, none] rfl (Nat.le_of_ble_eq_true rfl) (by decide) ?_
  refine Ev_aload_n dX9_where_0 rfl ?_
  refine Ev_iload_n dX9_where_1 rfl ?_
  refine Ev_iload_n dX9_where_2 rfl ?_
  refine Ev_iload_n dX9_where_3 rfl ?_
  obtain ⟨y3, μ1, hM2, h⟩ := h
  refine Ev_callV [_, _, _] mlX9_201 rfl rfl (Nat.le_of_ble_eq_true rfl) dX9_where_4 hM2 ?_
  refine Ev_if_eq 43 dX9_where_7 (by decide) (fun q => ?_) (fun q => ?_)
  · have h := h.1 q
    refine Ev_sipush (-1000) dX9_where_43 (by decide) ?_
    obtain ⟨rfl, rfl⟩ := h
    exact R_i rfl dX9_where_46 rfl
  · have h := h.2 q
    refine Ev_iload dX9_where_10 rfl ?_
    refine Ev_if_lt 43 dX9_where_12 (by decide) (fun q => ?_) (fun q => ?_)
    · have h := h.1 q
      refine Ev_sipush (-1000) dX9_where_43 (by decide) ?_
      obtain ⟨rfl, rfl⟩ := h
      exact R_i rfl dX9_where_46 rfl
    · have h := h.2 q
      refine Ev_iload dX9_where_15 rfl ?_
      refine Ev_iconst 2 dX9_where_17 (by decide) ?_
      refine Ev_icmp_gt 43 dX9_where_18 (by decide) (fun q => ?_) (fun q => ?_)
      · have h := h.1 q
        refine Ev_sipush (-1000) dX9_where_43 (by decide) ?_
        obtain ⟨rfl, rfl⟩ := h
        exact R_i rfl dX9_where_46 rfl
      · have h := h.2 q
        refine Ev_iload_n dX9_where_21 rfl ?_
        refine Ev_aload_n dX9_where_22 rfl ?_
        refine Ev_getP flX9_30 rfl dX9_where_23 ?_
        refine Ev_getI flX9_166 rfl dX9_where_26 ?_
        refine Ev_icmp_gt 43 dX9_where_29 (by decide) (fun q => ?_) (fun q => ?_)
        · have h := h.1 q
          refine Ev_sipush (-1000) dX9_where_43 (by decide) ?_
          obtain ⟨rfl, rfl⟩ := h
          exact R_i rfl dX9_where_46 rfl
        · have h := h.2 q
          refine Ev_iload_n dX9_where_32 rfl ?_
          refine Ev_aload_n dX9_where_33 rfl ?_
          refine Ev_getP flX9_30 rfl dX9_where_34 ?_
          refine Ev_getI flX9_169 rfl dX9_where_37 ?_
          refine Ev_icmp_le 47 dX9_where_40 (by decide) (fun q => ?_) (fun q => ?_)
          · have h := h.1 q
            refine Ev_aload_n dX9_where_47 rfl ?_
            refine Ev_getF 7 0 9 flX9_39 rfl dX9_where_48 ?_
            refine Ev_iload_n dX9_where_51 rfl ?_
            refine Ev_aload_n dX9_where_52 rfl ?_
            refine Ev_getF 5 0 13 flX9_46 rfl dX9_where_53 ?_
            refine Ev_iload_n dX9_where_56 rfl ?_
            refine Ev_iconst 1 dX9_where_57 (by decide) ?_
            obtain ⟨y6, μ4, hM5, h⟩ := h
            refine Ev_callV [_, _] mlX9_148 rfl rfl (Nat.le_of_ble_eq_true rfl) dX9_where_58 hM5 ?_
            refine Ev_iload_n dX9_where_61 rfl ?_
            refine Ev_iload_n dX9_where_62 rfl ?_
            refine Ev_aload_n dX9_where_63 rfl ?_
            refine Ev_getF 5 0 13 flX9_46 rfl dX9_where_64 ?_
            refine Ev_getI flX9_181 rfl dX9_where_67 ?_
            obtain ⟨μ7, hM8, h⟩ := h
            refine Ev_callV [_, _, _, _, _] mlX9_247 rfl rfl (Nat.le_of_ble_eq_true rfl) dX9_where_70 hM8 ?_
            refine Ev_sipush (-1000) dX9_where_73 (by decide) ?_
            refine Ev_istore dX9_where_76 (Nat.le_of_ble_eq_true rfl) (okp_of rfl) ?_
            refine Ev_iconst 0 dX9_where_78 (by decide) ?_
            refine Ev_istore dX9_where_79 (Nat.le_of_ble_eq_true rfl) (okp_of rfl) ?_
            refine Ev_iconst 0 dX9_where_81 (by decide) ?_
            refine Ev_istore dX9_where_82 (Nat.le_of_ble_eq_true rfl) (okp_of rfl) ?_
            refine Ev_iconst 0 dX9_where_84 (by decide) ?_
            refine Ev_istore dX9_where_85 (Nat.le_of_ble_eq_true rfl) (okp_of rfl) ?_
            refine Ev_weak ?_ h
            exact And.intro rfl (And.intro trivial (And.intro rfl (And.intro rfl (And.intro rfl (And.intro rfl (And.intro rfl (And.intro rfl (And.intro rfl (And.intro trivial (And.intro trivial (trivial)))))))))))
          · have h := h.2 q
            refine Ev_sipush (-1000) dX9_where_43 (by decide) ?_
            obtain ⟨rfl, rfl⟩ := h
            exact R_i rfl dX9_where_46 rfl
set_option maxHeartbeats 4000000 in
set_option maxRecDepth 100000 in
theorem X9_where_at87_ok {d : Nat} {x2 : Int32} {x3 : Int32} {x4 : Int32} {x5 : Int32} {x6 : Int32} {x7 : Int32} {x8 : Int32} {μ μ' : Mem} {x : Int32} (h : (((μ.1 (μ.2.2 0 4) 1) < (x8 + x3) → ((x4 ≠ 0 → ((x4 ≠ 1 → (x = x7 ∧ μ' = μ)) ∧ (x4 = 1 → (x = x6 ∧ μ' = μ)))) ∧ (x4 = 0 → (x = x5 ∧ μ' = μ)))) ∧ (¬ (μ.1 (μ.2.2 0 4) 1) < (x8 + x3) → X9_where_at104 d x2 x3 x4 x5 x6 x7 x8 0 μ x μ'))) : X9_where_at87 d x2 x3 x4 x5 x6 x7 x8 μ x μ' := by
  refine Ev_iload dX9_where_87 rfl ?_
  refine Ev_iload_n dX9_where_89 rfl ?_
  refine Ev_iadd dX9_where_90 ?_
  refine Ev_aload_n dX9_where_91 rfl ?_
  refine Ev_getP flX9_30 rfl dX9_where_92 ?_
  refine Ev_getI flX9_169 rfl dX9_where_95 ?_
  refine Ev_icmp_gt 168 dX9_where_98 (by decide) (fun q => ?_) (fun q => ?_)
  · have h := h.1 q
    refine Ev_iload dX9_where_168 rfl ?_
    refine Ev_if_ne 178 dX9_where_170 (by decide) (fun q => ?_) (fun q => ?_)
    · have h := h.1 q
      refine Ev_iload dX9_where_178 rfl ?_
      refine Ev_iconst 1 dX9_where_180 (by decide) ?_
      refine Ev_icmp_ne 189 dX9_where_181 (by decide) (fun q => ?_) (fun q => ?_)
      · have h := h.1 q
        refine Ev_iload dX9_where_189 rfl ?_
        obtain ⟨rfl, rfl⟩ := h
        exact R_i rfl dX9_where_191 rfl
      · have h := h.2 q
        refine Ev_iload dX9_where_184 rfl ?_
        refine Ev_goto 191 dX9_where_186 (by decide) ?_
        obtain ⟨rfl, rfl⟩ := h
        exact R_i rfl dX9_where_191 rfl
    · have h := h.2 q
      refine Ev_iload dX9_where_173 rfl ?_
      refine Ev_goto 191 dX9_where_175 (by decide) ?_
      obtain ⟨rfl, rfl⟩ := h
      exact R_i rfl dX9_where_191 rfl
  · have h := h.2 q
    refine Ev_iconst 0 dX9_where_101 (by decide) ?_
    refine Ev_istore dX9_where_102 (Nat.le_of_ble_eq_true rfl) (okp_of rfl) ?_
    exact h
set_option maxHeartbeats 4000000 in
set_option maxRecDepth 100000 in
theorem X9_where_at104_ok {d : Nat} {x2 : Int32} {x3 : Int32} {x4 : Int32} {x5 : Int32} {x6 : Int32} {x7 : Int32} {x8 : Int32} {x9 : Int32} {μ μ' : Mem} {x : Int32} (h : (((μ.1 (μ.2.2 0 4) 0) < (x9 + x2) → X9_where_at87 d x2 x3 x4 x5 x6 x7 (x8 + 1) μ x μ') ∧ (¬ (μ.1 (μ.2.2 0 4) 0) < (x9 + x2) → (∃ (y3 : Int32) (μ1 : Mem), X7_gain d 13 x2 x3 x9 x8 μ y3 μ1 ∧ ((y3 ≤ x5 → X9_where_at104 d x2 x3 x4 x5 x6 x7 x8 (x9 + 1) μ1 x μ') ∧ (¬ y3 ≤ x5 → X9_where_at104 d x2 x3 x4 y3 x9 x8 x8 (x9 + 1) μ1 x μ')))))) : X9_where_at104 d x2 x3 x4 x5 x6 x7 x8 x9 μ x μ' := by
  refine Ev_iload dX9_where_104 rfl ?_
  refine Ev_iload_n dX9_where_106 rfl ?_
  refine Ev_iadd dX9_where_107 ?_
  refine Ev_aload_n dX9_where_108 rfl ?_
  refine Ev_getP flX9_30 rfl dX9_where_109 ?_
  refine Ev_getI flX9_166 rfl dX9_where_112 ?_
  refine Ev_icmp_gt 162 dX9_where_115 (by decide) (fun q => ?_) (fun q => ?_)
  · have h := h.1 q
    refine Ev_iinc (x8 + 1) dX9_where_162 rfl rfl (okp_of rfl) ?_
    refine Ev_goto 87 dX9_where_165 (by decide) ?_
    refine Ev_weak ?_ h
    exact And.intro rfl (And.intro trivial (And.intro rfl (And.intro rfl (And.intro rfl (And.intro rfl (And.intro rfl (And.intro rfl (And.intro rfl (And.intro trivial (And.intro trivial (trivial)))))))))))
  · have h := h.2 q
    refine Ev_aload_n dX9_where_118 rfl ?_
    refine Ev_getF 7 0 9 flX9_39 rfl dX9_where_119 ?_
    refine Ev_aload_n dX9_where_122 rfl ?_
    refine Ev_getF 5 0 13 flX9_46 rfl dX9_where_123 ?_
    refine Ev_iload_n dX9_where_126 rfl ?_
    refine Ev_iload_n dX9_where_127 rfl ?_
    refine Ev_iload dX9_where_128 rfl ?_
    refine Ev_iload dX9_where_130 rfl ?_
    obtain ⟨y3, μ1, hM2, h⟩ := h
    refine Ev_callV [_, _, _, _, _] mlX9_264 rfl rfl (Nat.le_of_ble_eq_true rfl) dX9_where_132 hM2 ?_
    refine Ev_istore dX9_where_135 (Nat.le_of_ble_eq_true rfl) (okp_of rfl) ?_
    refine Ev_iload dX9_where_137 rfl ?_
    refine Ev_iload dX9_where_139 rfl ?_
    refine Ev_icmp_le 156 dX9_where_141 (by decide) (fun q => ?_) (fun q => ?_)
    · have h := h.1 q
      refine Ev_iinc (x9 + 1) dX9_where_156 rfl rfl (okp_of rfl) ?_
      refine Ev_goto 104 dX9_where_159 (by decide) ?_
      refine Ev_weak ?_ h
      exact And.intro rfl (And.intro trivial (And.intro rfl (And.intro rfl (And.intro rfl (And.intro rfl (And.intro rfl (And.intro rfl (And.intro rfl (And.intro rfl (And.intro trivial (trivial)))))))))))
    · have h := h.2 q
      refine Ev_iload dX9_where_144 rfl ?_
      refine Ev_istore dX9_where_146 (Nat.le_of_ble_eq_true rfl) (okp_of rfl) ?_
      refine Ev_iload dX9_where_148 rfl ?_
      refine Ev_istore dX9_where_150 (Nat.le_of_ble_eq_true rfl) (okp_of rfl) ?_
      refine Ev_iload dX9_where_152 rfl ?_
      refine Ev_istore dX9_where_154 (Nat.le_of_ble_eq_true rfl) (okp_of rfl) ?_
      refine Ev_iinc (x9 + 1) dX9_where_156 rfl rfl (okp_of rfl) ?_
      refine Ev_goto 104 dX9_where_159 (by decide) ?_
      refine Ev_weak ?_ h
      exact And.intro rfl (And.intro trivial (And.intro rfl (And.intro rfl (And.intro rfl (And.intro rfl (And.intro rfl (And.intro rfl (And.intro rfl (And.intro rfl (And.intro trivial (trivial)))))))))))
set_option maxHeartbeats 4000000 in
set_option maxRecDepth 100000 in
theorem X9_year_ok {d : Nat} {x1 : Int32} {x2 : Int32} {μ μ' : Mem} {x : Int32} (h : (∃ (y3 : Int32) (μ1 : Mem), X9_isAhead d x1 μ y3 μ1 ∧ ((y3 = 0 → (x = (-1) ∧ μ' = μ1)) ∧ (¬ y3 = 0 → ((x2 < 1 → (x = (-1) ∧ μ' = μ1)) ∧ (¬ x2 < 1 → ((x2 ≤ 20 → (∃ (y6 : Int32) (μ4 : Mem), X5_sum d 6 16 μ1 y6 μ4 ∧ X9_year_at43 d x1 x2 y6 0 (μ4.1 (μ4.2.2 0 4) 6) μ4 x μ')) ∧ (¬ x2 ≤ 20 → (x = (-1) ∧ μ' = μ1))))))))) : X9_year (d + 1) x1 x2 μ x μ' := by
  refine Me_of [some (vr 9 0 0), some (vi x1), some (vi x2), none, none, none] rfl (Nat.le_of_ble_eq_true rfl) (by decide) ?_
  refine Ev_iload_n dX9_year_0 rfl ?_
  obtain ⟨y3, μ1, hM2, h⟩ := h
  refine Ev_callS [_] mlX9_298 rfl rfl (Nat.le_of_ble_eq_true rfl) dX9_year_1 hM2 ?_
  refine Ev_if_eq 18 dX9_year_4 (by decide) (fun q => ?_) (fun q => ?_)
  · have h := h.1 q
    refine Ev_iconst (-1) dX9_year_18 (by decide) ?_
    obtain ⟨rfl, rfl⟩ := h
    exact R_i rfl dX9_year_19 rfl
  · have h := h.2 q
    refine Ev_iload_n dX9_year_7 rfl ?_
    refine Ev_iconst 1 dX9_year_8 (by decide) ?_
    refine Ev_icmp_lt 18 dX9_year_9 (by decide) (fun q => ?_) (fun q => ?_)
    · have h := h.1 q
      refine Ev_iconst (-1) dX9_year_18 (by decide) ?_
      obtain ⟨rfl, rfl⟩ := h
      exact R_i rfl dX9_year_19 rfl
    · have h := h.2 q
      refine Ev_iload_n dX9_year_12 rfl ?_
      refine Ev_bipush 20 dX9_year_13 (by decide) ?_
      refine Ev_icmp_le 20 dX9_year_15 (by decide) (fun q => ?_) (fun q => ?_)
      · have h := h.1 q
        refine Ev_aload_n dX9_year_20 rfl ?_
        refine Ev_getF 5 0 13 flX9_46 rfl dX9_year_21 ?_
        refine Ev_getF 11 6 3 flX9_135 rfl dX9_year_24 ?_
        obtain ⟨y6, μ4, hM5, h⟩ := h
        refine Ev_callS [_] mlX9_184 rfl rfl (Nat.le_of_ble_eq_true rfl) dX9_year_27 hM5 ?_
        refine Ev_istore_n dX9_year_30 (Nat.le_of_ble_eq_true rfl) (okp_of rfl) ?_
        refine Ev_iconst 0 dX9_year_31 (by decide) ?_
        refine Ev_istore dX9_year_32 (Nat.le_of_ble_eq_true rfl) (okp_of rfl) ?_
        refine Ev_aload_n dX9_year_34 rfl ?_
        refine Ev_getP flX9_30 rfl dX9_year_35 ?_
        refine Ev_getI flX9_228 rfl dX9_year_38 ?_
        refine Ev_istore dX9_year_41 (Nat.le_of_ble_eq_true rfl) (okp_of rfl) ?_
        exact h
      · have h := h.2 q
        refine Ev_iconst (-1) dX9_year_18 (by decide) ?_
        obtain ⟨rfl, rfl⟩ := h
        exact R_i rfl dX9_year_19 rfl
set_option maxHeartbeats 4000000 in
set_option maxRecDepth 100000 in
theorem X9_year_at43_ok {d : Nat} {x1 : Int32} {x2 : Int32} {x3 : Int32} {x4 : Int32} {x5 : Int32} {μ μ' : Mem} {x : Int32} (h : ((((μ.1 (μ.2.2 0 4) 6) + x2) ≤ x5 → (x = x4 ∧ μ' = μ)) ∧ (¬ ((μ.1 (μ.2.2 0 4) 6) + x2) ≤ x5 → (∃ (y3 : Nat) (μ1 : Mem), X5_copy d 18 13 μ y3 μ1 ∧ (∃ (μ4 : Mem), X7_passDays d y3 x1 x5 μ1 μ4 ∧ (∃ (y8 : Int32) (μ6 : Mem), X5_sum d 6 21 μ4 y8 μ6 ∧ X9_year_at43 d x1 x2 x3 (x4 + (y8 - x3)) (x5 + 1) μ6 x μ')))))) : X9_year_at43 d x1 x2 x3 x4 x5 μ x μ' := by
  refine Ev_iload dX9_year_43 rfl ?_
  refine Ev_aload_n dX9_year_45 rfl ?_
  refine Ev_getP flX9_30 rfl dX9_year_46 ?_
  refine Ev_getI flX9_228 rfl dX9_year_49 ?_
  refine Ev_iload_n dX9_year_52 rfl ?_
  refine Ev_iadd dX9_year_53 ?_
  refine Ev_icmp_ge 101 dX9_year_54 (by decide) (fun q => ?_) (fun q => ?_)
  · have h := h.1 q
    refine Ev_iload dX9_year_101 rfl ?_
    obtain ⟨rfl, rfl⟩ := h
    exact R_i rfl dX9_year_103 rfl
  · have h := h.2 q
    refine Ev_aload_n dX9_year_57 rfl ?_
    refine Ev_getF 7 0 9 flX9_39 rfl dX9_year_58 ?_
    refine Ev_aload_n dX9_year_61 rfl ?_
    refine Ev_getF 5 0 18 flX9_50 rfl dX9_year_62 ?_
    refine Ev_aload_n dX9_year_65 rfl ?_
    refine Ev_getF 5 0 13 flX9_46 rfl dX9_year_66 ?_
    obtain ⟨y3, μ1, hM2, h⟩ := h
    refine Ev_callV [_] mlX9_301 rfl rfl (Nat.le_of_ble_eq_true rfl) dX9_year_69 hM2 ?_
    refine Ev_iload_n dX9_year_72 rfl ?_
    refine Ev_iload dX9_year_73 rfl ?_
    obtain ⟨μ4, hM5, h⟩ := h
    refine Ev_callV [_, _, _] mlX9_231 rfl rfl (Nat.le_of_ble_eq_true rfl) dX9_year_75 hM5 ?_
    refine Ev_iload dX9_year_78 rfl ?_
    refine Ev_aload_n dX9_year_80 rfl ?_
    refine Ev_getF 5 0 18 flX9_50 rfl dX9_year_81 ?_
    refine Ev_getF 11 6 3 flX9_135 rfl dX9_year_84 ?_
    obtain ⟨y8, μ6, hM7, h⟩ := h
    refine Ev_callS [_] mlX9_184 rfl rfl (Nat.le_of_ble_eq_true rfl) dX9_year_87 hM7 ?_
    refine Ev_iload_n dX9_year_90 rfl ?_
    refine Ev_isub dX9_year_91 ?_
    refine Ev_iadd dX9_year_92 ?_
    refine Ev_istore dX9_year_93 (Nat.le_of_ble_eq_true rfl) (okp_of rfl) ?_
    refine Ev_iinc (x5 + 1) dX9_year_95 rfl rfl (okp_of rfl) ?_
    refine Ev_goto 43 dX9_year_98 (by decide) ?_
    exact h
