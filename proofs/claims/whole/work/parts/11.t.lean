abbrev X6_isBlank (d : Nat) (x0 : Int32) (μ : Mem) (x : Int32) (μ' : Mem) : Prop := Me d yX6_isBlank cX6_isBlank 1 ((some .boolean)) [vi x0] μ (some (vi x)) μ'
set_option maxHeartbeats 4000000 in
set_option maxRecDepth 100000 in
theorem X6_isBlank_ok {d : Nat} {x0 : Int32} {μ μ' : Mem} {x : Int32} (h : ((x0 = 9 → (x = 1 ∧ μ' = μ)) ∧ (¬ x0 = 9 → ((x0 = 10 → (x = 1 ∧ μ' = μ)) ∧ (¬ x0 = 10 → ((x0 = 13 → (x = 1 ∧ μ' = μ)) ∧ (¬ x0 = 13 → ((x0 ≠ 32 → (x = 0 ∧ μ' = μ)) ∧ (x0 = 32 → (x = 1 ∧ μ' = μ)))))))))) : X6_isBlank d x0 μ x μ' := by
  refine Me_of [some (vi x0)] rfl (Nat.le_of_ble_eq_true rfl) (by decide) ?_
  refine Ev_iload_n dX6_isBlank_0 rfl ?_
  refine Ev_bipush 9 dX6_isBlank_1 (by decide) ?_
  refine Ev_icmp_eq 24 dX6_isBlank_3 (by decide) (fun q => ?_) (fun q => ?_)
  · have h := h.1 q
    refine Ev_iconst 1 dX6_isBlank_24 (by decide) ?_
    refine Ev_goto 29 dX6_isBlank_25 (by decide) ?_
    obtain ⟨rfl, rfl⟩ := h
    exact R_i rfl dX6_isBlank_29 rfl
  · have h := h.2 q
    refine Ev_iload_n dX6_isBlank_6 rfl ?_
    refine Ev_bipush 10 dX6_isBlank_7 (by decide) ?_
    refine Ev_icmp_eq 24 dX6_isBlank_9 (by decide) (fun q => ?_) (fun q => ?_)
    · have h := h.1 q
      refine Ev_iconst 1 dX6_isBlank_24 (by decide) ?_
      refine Ev_goto 29 dX6_isBlank_25 (by decide) ?_
      obtain ⟨rfl, rfl⟩ := h
      exact R_i rfl dX6_isBlank_29 rfl
    · have h := h.2 q
      refine Ev_iload_n dX6_isBlank_12 rfl ?_
      refine Ev_bipush 13 dX6_isBlank_13 (by decide) ?_
      refine Ev_icmp_eq 24 dX6_isBlank_15 (by decide) (fun q => ?_) (fun q => ?_)
      · have h := h.1 q
        refine Ev_iconst 1 dX6_isBlank_24 (by decide) ?_
        refine Ev_goto 29 dX6_isBlank_25 (by decide) ?_
        obtain ⟨rfl, rfl⟩ := h
        exact R_i rfl dX6_isBlank_29 rfl
      · have h := h.2 q
        refine Ev_iload_n dX6_isBlank_18 rfl ?_
        refine Ev_bipush 32 dX6_isBlank_19 (by decide) ?_
        refine Ev_icmp_ne 28 dX6_isBlank_21 (by decide) (fun q => ?_) (fun q => ?_)
        · have h := h.1 q
          refine Ev_iconst 0 dX6_isBlank_28 (by decide) ?_
          obtain ⟨rfl, rfl⟩ := h
          exact R_i rfl dX6_isBlank_29 rfl
        · have h := h.2 q
          refine Ev_iconst 1 dX6_isBlank_24 (by decide) ?_
          refine Ev_goto 29 dX6_isBlank_25 (by decide) ?_
          obtain ⟨rfl, rfl⟩ := h
          exact R_i rfl dX6_isBlank_29 rfl
abbrev X6_isLetter (d : Nat) (x0 : Int32) (μ : Mem) (x : Int32) (μ' : Mem) : Prop := Me d yX6_isLetter cX6_isLetter 1 ((some .boolean)) [vi x0] μ (some (vi x)) μ'
set_option maxHeartbeats 4000000 in
set_option maxRecDepth 100000 in
theorem X6_isLetter_ok {d : Nat} {x0 : Int32} {μ μ' : Mem} {x : Int32} (h : ((x0 < 97 → (x = 0 ∧ μ' = μ)) ∧ (¬ x0 < 97 → ((122 < x0 → (x = 0 ∧ μ' = μ)) ∧ (¬ 122 < x0 → (x = 1 ∧ μ' = μ)))))) : X6_isLetter d x0 μ x μ' := by
  refine Me_of [some (vi x0)] rfl (Nat.le_of_ble_eq_true rfl) (by decide) ?_
  refine Ev_iload_n dX6_isLetter_0 rfl ?_
  refine Ev_bipush 97 dX6_isLetter_1 (by decide) ?_
  refine Ev_icmp_lt 16 dX6_isLetter_3 (by decide) (fun q => ?_) (fun q => ?_)
  · have h := h.1 q
    refine Ev_iconst 0 dX6_isLetter_16 (by decide) ?_
    obtain ⟨rfl, rfl⟩ := h
    exact R_i rfl dX6_isLetter_17 rfl
  · have h := h.2 q
    refine Ev_iload_n dX6_isLetter_6 rfl ?_
    refine Ev_bipush 122 dX6_isLetter_7 (by decide) ?_
    refine Ev_icmp_gt 16 dX6_isLetter_9 (by decide) (fun q => ?_) (fun q => ?_)
    · have h := h.1 q
      refine Ev_iconst 0 dX6_isLetter_16 (by decide) ?_
      obtain ⟨rfl, rfl⟩ := h
      exact R_i rfl dX6_isLetter_17 rfl
    · have h := h.2 q
      refine Ev_iconst 1 dX6_isLetter_12 (by decide) ?_
      refine Ev_goto 17 dX6_isLetter_13 (by decide) ?_
      obtain ⟨rfl, rfl⟩ := h
      exact R_i rfl dX6_isLetter_17 rfl
abbrev X6_isDigit (d : Nat) (x0 : Int32) (μ : Mem) (x : Int32) (μ' : Mem) : Prop := Me d yX6_isDigit cX6_isDigit 1 ((some .boolean)) [vi x0] μ (some (vi x)) μ'
set_option maxHeartbeats 4000000 in
set_option maxRecDepth 100000 in
theorem X6_isDigit_ok {d : Nat} {x0 : Int32} {μ μ' : Mem} {x : Int32} (h : ((x0 < 48 → (x = 0 ∧ μ' = μ)) ∧ (¬ x0 < 48 → ((57 < x0 → (x = 0 ∧ μ' = μ)) ∧ (¬ 57 < x0 → (x = 1 ∧ μ' = μ)))))) : X6_isDigit d x0 μ x μ' := by
  refine Me_of [some (vi x0)] rfl (Nat.le_of_ble_eq_true rfl) (by decide) ?_
  refine Ev_iload_n dX6_isDigit_0 rfl ?_
  refine Ev_bipush 48 dX6_isDigit_1 (by decide) ?_
  refine Ev_icmp_lt 16 dX6_isDigit_3 (by decide) (fun q => ?_) (fun q => ?_)
  · have h := h.1 q
    refine Ev_iconst 0 dX6_isDigit_16 (by decide) ?_
    obtain ⟨rfl, rfl⟩ := h
    exact R_i rfl dX6_isDigit_17 rfl
  · have h := h.2 q
    refine Ev_iload_n dX6_isDigit_6 rfl ?_
    refine Ev_bipush 57 dX6_isDigit_7 (by decide) ?_
    refine Ev_icmp_gt 16 dX6_isDigit_9 (by decide) (fun q => ?_) (fun q => ?_)
    · have h := h.1 q
      refine Ev_iconst 0 dX6_isDigit_16 (by decide) ?_
      obtain ⟨rfl, rfl⟩ := h
      exact R_i rfl dX6_isDigit_17 rfl
    · have h := h.2 q
      refine Ev_iconst 1 dX6_isDigit_12 (by decide) ?_
      refine Ev_goto 17 dX6_isDigit_13 (by decide) ?_
      obtain ⟨rfl, rfl⟩ := h
      exact R_i rfl dX6_isDigit_17 rfl
abbrev X6_put (d : Nat) (x1 : Int32) (x2 : Int32) (x3 : Int64) (μ : Mem) (μ' : Mem) : Prop := Me d yX6_put cX6_put 5 (none) [vr 6 0 3, vi x1, vi x2, vl x3] μ none μ'
set_option maxHeartbeats 4000000 in
set_option maxRecDepth 100000 in
theorem X6_put_ok {d : Nat} {x1 : Int32} {x2 : Int32} {x3 : Int64} {μ μ' : Mem} (h : ((400 < (μ.1 3 4) → μ' = μ) ∧ (¬ 400 < (μ.1 3 4) → vp_in (μ.1 3 4) 401 ∧ (∀ μ1 : Mem, μ1 = sI μ 5 ((μ.1 3 4).toNatClampNeg) x1 → vp_in (μ1.1 3 4) 401 ∧ (∀ μ2 : Mem, μ2 = sI μ1 6 ((μ1.1 3 4).toNatClampNeg) x2 → vp_in (μ2.1 3 4) 401 ∧ (∀ μ3 : Mem, μ3 = sJ μ2 7 ((μ2.1 3 4).toNatClampNeg) x3 → (∀ μ4 : Mem, μ4 = sI μ3 3 4 ((μ3.1 3 4) + 1) → μ' = μ4))))))) : X6_put d x1 x2 x3 μ μ' := by
  refine Me_of [some (vr 6 0 3), some (vi x1), some (vi x2), some (vl x3), none] rfl (Nat.le_of_ble_eq_true rfl) (by decide) ?_
  refine Ev_aload_n dX6_put_0 rfl ?_
  refine Ev_getI flX6_23 rfl dX6_put_1 ?_
  refine Ev_sipush 400 dX6_put_4 (by decide) ?_
  refine Ev_icmp_gt 50 dX6_put_7 (by decide) (fun q => ?_) (fun q => ?_)
  · have h := h.1 q
    subst h
    exact R_v rfl dX6_put_50
  · have h := h.2 q
    refine Ev_aload_n dX6_put_10 rfl ?_
    refine Ev_getF 11 401 2 flX6_13 rfl dX6_put_11 ?_
    refine Ev_aload_n dX6_put_14 rfl ?_
    refine Ev_getI flX6_23 rfl dX6_put_15 ?_
    refine Ev_iload_n dX6_put_18 rfl ?_
    obtain ⟨g, h⟩ := h
    refine Ev_iast g dX6_put_19 ?_
    have h := h _ rfl
    refine Ev_aload_n dX6_put_20 rfl ?_
    refine Ev_getF 11 401 3 flX6_17 rfl dX6_put_21 ?_
    refine Ev_aload_n dX6_put_24 rfl ?_
    refine Ev_getI flX6_23 rfl dX6_put_25 ?_
    refine Ev_iload_n dX6_put_28 rfl ?_
    obtain ⟨g, h⟩ := h
    refine Ev_iast g dX6_put_29 ?_
    have h := h _ rfl
    refine Ev_aload_n dX6_put_30 rfl ?_
    refine Ev_getF 13 401 4 flX6_20 rfl dX6_put_31 ?_
    refine Ev_aload_n dX6_put_34 rfl ?_
    refine Ev_getI flX6_23 rfl dX6_put_35 ?_
    refine Ev_lload_n dX6_put_38 rfl ?_
    obtain ⟨g, h⟩ := h
    refine Ev_last g dX6_put_39 ?_
    have h := h _ rfl
    refine Ev_aload_n dX6_put_40 rfl ?_
    refine Ev_dup dX6_put_41 (fun _ z => by cases z) ?_
    refine Ev_getI flX6_23 rfl dX6_put_42 ?_
    refine Ev_iconst 1 dX6_put_45 (by decide) ?_
    refine Ev_iadd dX6_put_46 ?_
    refine Ev_putI .int flX6_23 fpX6_4 rfl rfl rfl dX6_put_47 ?_
    have h := h _ rfl
    subst h
    exact R_v rfl dX6_put_50
abbrev X6_takeDigits (d : Nat) (x2 : Int32) (x3 : Int32) (μ : Mem) (x : Int32) (μ' : Mem) : Prop := Me d yX6_takeDigits cX6_takeDigits 6 ((some .int)) [vr 6 0 3, vr 12 2000 1, vi x2, vi x3] μ (some (vi x)) μ'
abbrev X6_takeDigits_at6 (d : Nat) (x2 : Int32) (x3 : Int32) (x4 : Int32) (x5 : Int32) (μ : Mem) (x : Int32) (μ' : Mem) : Prop := Ev (d + 1) yX6_takeDigits cX6_takeDigits 6 ((some .int)) 6 [some (vr 6 0 3), some (vr 12 2000 1), some (vi x2), some (vi x3), some (vi x4), some (vi x5)] [] μ (some (vi x)) μ'
set_option maxHeartbeats 4000000 in
set_option maxRecDepth 100000 in
theorem X6_takeDigits_ok {d : Nat} {x2 : Int32} {x3 : Int32} {μ μ' : Mem} {x : Int32} (h : X6_takeDigits_at6 d x2 x3 0 x2 μ x μ') : X6_takeDigits (d + 1) x2 x3 μ x μ' := by
  refine Me_of [some (vr 6 0 3), some (vr 12 2000 1), some (vi x2), some (vi x3), none, none] rfl (Nat.le_of_ble_eq_true rfl) (by decide) ?_
  refine Ev_iconst 0 dX6_takeDigits_0 (by decide) ?_
  refine Ev_istore dX6_takeDigits_1 (Nat.le_of_ble_eq_true rfl) (okp_of rfl) ?_
  refine Ev_iload_n dX6_takeDigits_3 rfl ?_
  refine Ev_istore dX6_takeDigits_4 (Nat.le_of_ble_eq_true rfl) (okp_of rfl) ?_
  exact h
set_option maxHeartbeats 4000000 in
set_option maxRecDepth 100000 in
theorem X6_takeDigits_at6_ok {d : Nat} {x2 : Int32} {x3 : Int32} {x4 : Int32} {x5 : Int32} {μ μ' : Mem} {x : Int32} (h : ((x3 ≤ x5 → (((x5 - x2) ≤ 4 → (∃ (μ1 : Mem), X6_put d 22 x2 x4.toInt64 μ μ1 ∧ (x = x5 ∧ μ' = μ1))) ∧ (¬ (x5 - x2) ≤ 4 → (∃ (μ3 : Mem), X6_put d 33 x2 x4.toInt64 μ μ3 ∧ (x = x5 ∧ μ' = μ3))))) ∧ (¬ x3 ≤ x5 → vp_in x5 2000 ∧ (∃ (y7 : Int32) (μ5 : Mem), X6_isDigit d (μ.1 1 x5.toNatClampNeg) μ y7 μ5 ∧ ((y7 = 0 → (((x5 - x2) ≤ 4 → (∃ (μ8 : Mem), X6_put d 22 x2 x4.toInt64 μ5 μ8 ∧ (x = x5 ∧ μ' = μ8))) ∧ (¬ (x5 - x2) ≤ 4 → (∃ (μ10 : Mem), X6_put d 33 x2 x4.toInt64 μ5 μ10 ∧ (x = x5 ∧ μ' = μ10))))) ∧ (¬ y7 = 0 → vp_in x5 2000 ∧ X6_takeDigits_at6 d x2 x3 ((x4 * 10) + ((μ5.1 1 x5.toNatClampNeg) - 48)) (x5 + 1) μ5 x μ')))))) : X6_takeDigits_at6 d x2 x3 x4 x5 μ x μ' := by
  refine Ev_iload dX6_takeDigits_6 rfl ?_
  refine Ev_iload_n dX6_takeDigits_8 rfl ?_
  refine Ev_icmp_ge 43 dX6_takeDigits_9 (by decide) (fun q => ?_) (fun q => ?_)
  · have h := h.1 q
    refine Ev_aload_n dX6_takeDigits_43 rfl ?_
    refine Ev_iload dX6_takeDigits_44 rfl ?_
    refine Ev_iload_n dX6_takeDigits_46 rfl ?_
    refine Ev_isub dX6_takeDigits_47 ?_
    refine Ev_iconst 4 dX6_takeDigits_48 (by decide) ?_
    refine Ev_icmp_le 57 dX6_takeDigits_49 (by decide) (fun q => ?_) (fun q => ?_)
    · have h := h.1 q
      refine Ev_bipush 22 dX6_takeDigits_57 (by decide) ?_
      refine Ev_iload_n dX6_takeDigits_59 rfl ?_
      refine Ev_iload dX6_takeDigits_60 rfl ?_
      refine Ev_i2l dX6_takeDigits_62 ?_
      obtain ⟨μ1, hM2, h⟩ := h
      refine Ev_callV [vi 22, vi x2, vl x4.toInt64] mlX6_73 rfl rfl (Nat.le_of_ble_eq_true rfl) dX6_takeDigits_63 hM2 ?_
      refine Ev_iload dX6_takeDigits_66 rfl ?_
      obtain ⟨rfl, rfl⟩ := h
      exact R_i rfl dX6_takeDigits_68 rfl
    · have h := h.2 q
      refine Ev_bipush 33 dX6_takeDigits_52 (by decide) ?_
      refine Ev_goto 59 dX6_takeDigits_54 (by decide) ?_
      refine Ev_iload_n dX6_takeDigits_59 rfl ?_
      refine Ev_iload dX6_takeDigits_60 rfl ?_
      refine Ev_i2l dX6_takeDigits_62 ?_
      obtain ⟨μ3, hM4, h⟩ := h
      refine Ev_callV [vi 33, vi x2, vl x4.toInt64] mlX6_73 rfl rfl (Nat.le_of_ble_eq_true rfl) dX6_takeDigits_63 hM4 ?_
      refine Ev_iload dX6_takeDigits_66 rfl ?_
      obtain ⟨rfl, rfl⟩ := h
      exact R_i rfl dX6_takeDigits_68 rfl
  · have h := h.2 q
    refine Ev_aload_n dX6_takeDigits_12 rfl ?_
    refine Ev_iload dX6_takeDigits_13 rfl ?_
    obtain ⟨g, h⟩ := h
    refine Ev_bald g dX6_takeDigits_15 ?_
    obtain ⟨y7, μ5, hM6, h⟩ := h
    refine Ev_callS [vi (μ.1 1 x5.toNatClampNeg)] mlX6_64 rfl rfl (Nat.le_of_ble_eq_true rfl) dX6_takeDigits_16 hM6 ?_
    refine Ev_if_eq 43 dX6_takeDigits_19 (by decide) (fun q => ?_) (fun q => ?_)
    · have h := h.1 q
      refine Ev_aload_n dX6_takeDigits_43 rfl ?_
      refine Ev_iload dX6_takeDigits_44 rfl ?_
      refine Ev_iload_n dX6_takeDigits_46 rfl ?_
      refine Ev_isub dX6_takeDigits_47 ?_
      refine Ev_iconst 4 dX6_takeDigits_48 (by decide) ?_
      refine Ev_icmp_le 57 dX6_takeDigits_49 (by decide) (fun q => ?_) (fun q => ?_)
      · have h := h.1 q
        refine Ev_bipush 22 dX6_takeDigits_57 (by decide) ?_
        refine Ev_iload_n dX6_takeDigits_59 rfl ?_
        refine Ev_iload dX6_takeDigits_60 rfl ?_
        refine Ev_i2l dX6_takeDigits_62 ?_
        obtain ⟨μ8, hM9, h⟩ := h
        refine Ev_callV [vi 22, vi x2, vl x4.toInt64] mlX6_73 rfl rfl (Nat.le_of_ble_eq_true rfl) dX6_takeDigits_63 hM9 ?_
        refine Ev_iload dX6_takeDigits_66 rfl ?_
        obtain ⟨rfl, rfl⟩ := h
        exact R_i rfl dX6_takeDigits_68 rfl
      · have h := h.2 q
        refine Ev_bipush 33 dX6_takeDigits_52 (by decide) ?_
        refine Ev_goto 59 dX6_takeDigits_54 (by decide) ?_
        refine Ev_iload_n dX6_takeDigits_59 rfl ?_
        refine Ev_iload dX6_takeDigits_60 rfl ?_
        refine Ev_i2l dX6_takeDigits_62 ?_
        obtain ⟨μ10, hM11, h⟩ := h
        refine Ev_callV [vi 33, vi x2, vl x4.toInt64] mlX6_73 rfl rfl (Nat.le_of_ble_eq_true rfl) dX6_takeDigits_63 hM11 ?_
        refine Ev_iload dX6_takeDigits_66 rfl ?_
        obtain ⟨rfl, rfl⟩ := h
        exact R_i rfl dX6_takeDigits_68 rfl
    · have h := h.2 q
      refine Ev_iload dX6_takeDigits_22 rfl ?_
      refine Ev_bipush 10 dX6_takeDigits_24 (by decide) ?_
      refine Ev_imul dX6_takeDigits_26 ?_
      refine Ev_aload_n dX6_takeDigits_27 rfl ?_
      refine Ev_iload dX6_takeDigits_28 rfl ?_
      obtain ⟨g, h⟩ := h
      refine Ev_bald g dX6_takeDigits_30 ?_
      refine Ev_bipush 48 dX6_takeDigits_31 (by decide) ?_
      refine Ev_isub dX6_takeDigits_33 ?_
      refine Ev_iadd dX6_takeDigits_34 ?_
      refine Ev_istore dX6_takeDigits_35 (Nat.le_of_ble_eq_true rfl) (okp_of rfl) ?_
      refine Ev_iinc (x5 + 1) dX6_takeDigits_37 rfl rfl (okp_of rfl) ?_
      refine Ev_goto 6 dX6_takeDigits_40 (by decide) ?_
      exact h
abbrev X6_nameWith (d : Nat) (x0 : Int64) (x2 : Int32) (μ : Mem) (x : Int64) (μ' : Mem) : Prop := Me d yX6_nameWith cX6_nameWith 3 ((some .long)) [vl x0, vi x2] μ (some (vl x)) μ'
set_option maxHeartbeats 4000000 in
set_option maxRecDepth 100000 in
theorem X6_nameWith_ok {d : Nat} {x0 : Int64} {x2 : Int32} {μ μ' : Mem} {x : Int64} (h : (x = (x0 * 32) + (((x2 - 97) + 1).toInt64) ∧ μ' = μ)) : X6_nameWith d x0 x2 μ x μ' := by
  refine Me_of [some (vl x0), none, some (vi x2)] rfl (Nat.le_of_ble_eq_true rfl) (by decide) ?_
  refine Ev_lload_n dX6_nameWith_0 rfl ?_
  refine Ev_ldc2 32 dX6_nameWith_1 (ts1 92 rfl rfl) ?_
  refine Ev_lmul dX6_nameWith_4 ?_
  refine Ev_iload_n dX6_nameWith_5 rfl ?_
  refine Ev_bipush 97 dX6_nameWith_6 (by decide) ?_
  refine Ev_isub dX6_nameWith_8 ?_
  refine Ev_iconst 1 dX6_nameWith_9 (by decide) ?_
  refine Ev_iadd dX6_nameWith_10 ?_
  refine Ev_i2l dX6_nameWith_11 ?_
  refine Ev_ladd dX6_nameWith_12 ?_
  obtain ⟨rfl, rfl⟩ := h
  exact R_l rfl dX6_nameWith_13
abbrev X6_takeLetters (d : Nat) (x2 : Int32) (x3 : Int32) (μ : Mem) (x : Int32) (μ' : Mem) : Prop := Me d yX6_takeLetters cX6_takeLetters 9 ((some .int)) [vr 6 0 3, vr 12 2000 1, vi x2, vi x3] μ (some (vi x)) μ'
abbrev X6_takeLetters_at6 (d : Nat) (x2 : Int32) (x3 : Int32) (x4 : Int64) (x6 : Int32) (μ : Mem) (x : Int32) (μ' : Mem) : Prop := Ev (d + 1) yX6_takeLetters cX6_takeLetters 9 ((some .int)) 6 [some (vr 6 0 3), some (vr 12 2000 1), some (vi x2), some (vi x3), some (vl x4), none, some (vi x6), none, none] [] μ (some (vi x)) μ'
abbrev X6_takeLetters_at60 (d : Nat) (x2 : Int32) (x4 : Int64) (x6 : Int32) (x7 : Int32) (x8 : Int32) (μ : Mem) (x : Int32) (μ' : Mem) : Prop := Ev (d + 1) yX6_takeLetters cX6_takeLetters 9 ((some .int)) 60 [some (vr 6 0 3), none, some (vi x2), none, some (vl x4), none, some (vi x6), some (vi x7), some (vi x8)] [] μ (some (vi x)) μ'
set_option maxHeartbeats 4000000 in
set_option maxRecDepth 100000 in
theorem X6_takeLetters_ok {d : Nat} {x2 : Int32} {x3 : Int32} {μ μ' : Mem} {x : Int32} (h : X6_takeLetters_at6 d x2 x3 0 x2 μ x μ') : X6_takeLetters (d + 1) x2 x3 μ x μ' := by
  refine Me_of [some (vr 6 0 3), some (vr 12 2000 1), some (vi x2), some (vi x3), none, none, none, none, none] rfl (Nat.le_of_ble_eq_true rfl) (by decide) ?_
  refine Ev_lconst 0 dX6_takeLetters_0 (by decide) ?_
  refine Ev_lstore dX6_takeLetters_1 (Nat.le_of_ble_eq_true rfl) (okp_of rfl) ?_
  refine Ev_iload_n dX6_takeLetters_3 rfl ?_
  refine Ev_istore dX6_takeLetters_4 (Nat.le_of_ble_eq_true rfl) (okp_of rfl) ?_
  exact h
set_option maxHeartbeats 4000000 in
set_option maxRecDepth 100000 in
theorem X6_takeLetters_at6_ok {d : Nat} {x2 : Int32} {x3 : Int32} {x4 : Int64} {x6 : Int32} {μ μ' : Mem} {x : Int32} (h : ((x3 ≤ x6 → (((x6 - x2) ≤ 8 → X6_takeLetters_at60 d x2 x4 x6 21 0 μ x μ') ∧ (¬ (x6 - x2) ≤ 8 → X6_takeLetters_at60 d x2 x4 x6 33 0 μ x μ'))) ∧ (¬ x3 ≤ x6 → vp_in x6 2000 ∧ (∃ (y3 : Int32) (μ1 : Mem), X6_isLetter d (μ.1 1 x6.toNatClampNeg) μ y3 μ1 ∧ ((y3 = 0 → (((x6 - x2) ≤ 8 → X6_takeLetters_at60 d x2 x4 x6 21 0 μ1 x μ') ∧ (¬ (x6 - x2) ≤ 8 → X6_takeLetters_at60 d x2 x4 x6 33 0 μ1 x μ'))) ∧ (¬ y3 = 0 → vp_in x6 2000 ∧ (∃ (y6 : Int64) (μ4 : Mem), X6_nameWith d x4 (μ1.1 1 x6.toNatClampNeg) μ1 y6 μ4 ∧ X6_takeLetters_at6 d x2 x3 y6 (x6 + 1) μ4 x μ'))))))) : X6_takeLetters_at6 d x2 x3 x4 x6 μ x μ' := by
  refine Ev_iload dX6_takeLetters_6 rfl ?_
  refine Ev_iload_n dX6_takeLetters_8 rfl ?_
  refine Ev_icmp_ge 39 dX6_takeLetters_9 (by decide) (fun q => ?_) (fun q => ?_)
  · have h := h.1 q
    refine Ev_iload dX6_takeLetters_39 rfl ?_
    refine Ev_iload_n dX6_takeLetters_41 rfl ?_
    refine Ev_isub dX6_takeLetters_42 ?_
    refine Ev_bipush 8 dX6_takeLetters_43 (by decide) ?_
    refine Ev_icmp_le 53 dX6_takeLetters_45 (by decide) (fun q => ?_) (fun q => ?_)
    · have h := h.1 q
      refine Ev_bipush 21 dX6_takeLetters_53 (by decide) ?_
      refine Ev_istore dX6_takeLetters_55 (Nat.le_of_ble_eq_true rfl) (okp_of rfl) ?_
      refine Ev_iconst 0 dX6_takeLetters_57 (by decide) ?_
      refine Ev_istore dX6_takeLetters_58 (Nat.le_of_ble_eq_true rfl) (okp_of rfl) ?_
      refine Ev_weak ?_ h
      exact And.intro rfl (And.intro trivial (And.intro rfl (And.intro trivial (And.intro rfl (And.intro trivial (And.intro rfl (And.intro rfl (And.intro rfl (trivial)))))))))
    · have h := h.2 q
      refine Ev_bipush 33 dX6_takeLetters_48 (by decide) ?_
      refine Ev_goto 55 dX6_takeLetters_50 (by decide) ?_
      refine Ev_istore dX6_takeLetters_55 (Nat.le_of_ble_eq_true rfl) (okp_of rfl) ?_
      refine Ev_iconst 0 dX6_takeLetters_57 (by decide) ?_
      refine Ev_istore dX6_takeLetters_58 (Nat.le_of_ble_eq_true rfl) (okp_of rfl) ?_
      refine Ev_weak ?_ h
      exact And.intro rfl (And.intro trivial (And.intro rfl (And.intro trivial (And.intro rfl (And.intro trivial (And.intro rfl (And.intro rfl (And.intro rfl (trivial)))))))))
  · have h := h.2 q
    refine Ev_aload_n dX6_takeLetters_12 rfl ?_
    refine Ev_iload dX6_takeLetters_13 rfl ?_
    obtain ⟨g, h⟩ := h
    refine Ev_bald g dX6_takeLetters_15 ?_
    obtain ⟨y3, μ1, hM2, h⟩ := h
    refine Ev_callS [vi (μ.1 1 x6.toNatClampNeg)] mlX6_57 rfl rfl (Nat.le_of_ble_eq_true rfl) dX6_takeLetters_16 hM2 ?_
    refine Ev_if_eq 39 dX6_takeLetters_19 (by decide) (fun q => ?_) (fun q => ?_)
    · have h := h.1 q
      refine Ev_iload dX6_takeLetters_39 rfl ?_
      refine Ev_iload_n dX6_takeLetters_41 rfl ?_
      refine Ev_isub dX6_takeLetters_42 ?_
      refine Ev_bipush 8 dX6_takeLetters_43 (by decide) ?_
      refine Ev_icmp_le 53 dX6_takeLetters_45 (by decide) (fun q => ?_) (fun q => ?_)
      · have h := h.1 q
        refine Ev_bipush 21 dX6_takeLetters_53 (by decide) ?_
        refine Ev_istore dX6_takeLetters_55 (Nat.le_of_ble_eq_true rfl) (okp_of rfl) ?_
        refine Ev_iconst 0 dX6_takeLetters_57 (by decide) ?_
        refine Ev_istore dX6_takeLetters_58 (Nat.le_of_ble_eq_true rfl) (okp_of rfl) ?_
        refine Ev_weak ?_ h
        exact And.intro rfl (And.intro trivial (And.intro rfl (And.intro trivial (And.intro rfl (And.intro trivial (And.intro rfl (And.intro rfl (And.intro rfl (trivial)))))))))
      · have h := h.2 q
        refine Ev_bipush 33 dX6_takeLetters_48 (by decide) ?_
        refine Ev_goto 55 dX6_takeLetters_50 (by decide) ?_
        refine Ev_istore dX6_takeLetters_55 (Nat.le_of_ble_eq_true rfl) (okp_of rfl) ?_
        refine Ev_iconst 0 dX6_takeLetters_57 (by decide) ?_
        refine Ev_istore dX6_takeLetters_58 (Nat.le_of_ble_eq_true rfl) (okp_of rfl) ?_
        refine Ev_weak ?_ h
        exact And.intro rfl (And.intro trivial (And.intro rfl (And.intro trivial (And.intro rfl (And.intro trivial (And.intro rfl (And.intro rfl (And.intro rfl (trivial)))))))))
    · have h := h.2 q
      refine Ev_lload dX6_takeLetters_22 rfl ?_
      refine Ev_aload_n dX6_takeLetters_24 rfl ?_
      refine Ev_iload dX6_takeLetters_25 rfl ?_
      obtain ⟨g, h⟩ := h
      refine Ev_bald g dX6_takeLetters_27 ?_
      obtain ⟨y6, μ4, hM5, h⟩ := h
      refine Ev_callS [vl x4, vi (μ1.1 1 x6.toNatClampNeg)] mlX6_39 rfl rfl (Nat.le_of_ble_eq_true rfl) dX6_takeLetters_28 hM5 ?_
      refine Ev_lstore dX6_takeLetters_31 (Nat.le_of_ble_eq_true rfl) (okp_of rfl) ?_
      refine Ev_iinc (x6 + 1) dX6_takeLetters_33 rfl rfl (okp_of rfl) ?_
      refine Ev_goto 6 dX6_takeLetters_36 (by decide) ?_
      exact h
set_option maxHeartbeats 4000000 in
set_option maxRecDepth 100000 in
theorem X6_takeLetters_at60_ok {d : Nat} {x2 : Int32} {x4 : Int64} {x6 : Int32} {x7 : Int32} {x8 : Int32} {μ μ' : Mem} {x : Int32} (h : ((21 ≤ x8 → (∃ (μ1 : Mem), X6_put d x7 x2 x4 μ μ1 ∧ (x = x6 ∧ μ' = μ1))) ∧ (¬ 21 ≤ x8 → ((x7 ≠ 21 → (∃ (μ3 : Mem), X6_put d x7 x2 x4 μ μ3 ∧ (x = x6 ∧ μ' = μ3))) ∧ (x7 = 21 → vp_in x8 21 ∧ (((lg_cmp (μ.2.1 4 x8.toNatClampNeg) x4) ≠ 0 → X6_takeLetters_at60 d x2 x4 x6 x7 (x8 + 1) μ x μ') ∧ ((lg_cmp (μ.2.1 4 x8.toNatClampNeg) x4) = 0 → X6_takeLetters_at60 d x2 x4 x6 x8 (x8 + 1) μ x μ'))))))) : X6_takeLetters_at60 d x2 x4 x6 x7 x8 μ x μ' := by
  refine Ev_iload dX6_takeLetters_60 rfl ?_
  refine Ev_aload_n dX6_takeLetters_62 rfl ?_
  refine Ev_getF 13 21 1 flX6_9 rfl dX6_takeLetters_63 ?_
  refine Ev_alen (21) (by decide) (by decide) (by decide) dX6_takeLetters_66 ?_
  refine Ev_icmp_ge 100 dX6_takeLetters_67 (by decide) (fun q => ?_) (fun q => ?_)
  · have h := h.1 q
    refine Ev_aload_n dX6_takeLetters_100 rfl ?_
    refine Ev_iload dX6_takeLetters_101 rfl ?_
    refine Ev_iload_n dX6_takeLetters_103 rfl ?_
    refine Ev_lload dX6_takeLetters_104 rfl ?_
    obtain ⟨μ1, hM2, h⟩ := h
    refine Ev_callV [vi x7, vi x2, vl x4] mlX6_73 rfl rfl (Nat.le_of_ble_eq_true rfl) dX6_takeLetters_106 hM2 ?_
    refine Ev_iload dX6_takeLetters_109 rfl ?_
    obtain ⟨rfl, rfl⟩ := h
    exact R_i rfl dX6_takeLetters_111 rfl
  · have h := h.2 q
    refine Ev_iload dX6_takeLetters_70 rfl ?_
    refine Ev_bipush 21 dX6_takeLetters_72 (by decide) ?_
    refine Ev_icmp_ne 100 dX6_takeLetters_74 (by decide) (fun q => ?_) (fun q => ?_)
    · have h := h.1 q
      refine Ev_aload_n dX6_takeLetters_100 rfl ?_
      refine Ev_iload dX6_takeLetters_101 rfl ?_
      refine Ev_iload_n dX6_takeLetters_103 rfl ?_
      refine Ev_lload dX6_takeLetters_104 rfl ?_
      obtain ⟨μ3, hM4, h⟩ := h
      refine Ev_callV [vi x7, vi x2, vl x4] mlX6_73 rfl rfl (Nat.le_of_ble_eq_true rfl) dX6_takeLetters_106 hM4 ?_
      refine Ev_iload dX6_takeLetters_109 rfl ?_
      obtain ⟨rfl, rfl⟩ := h
      exact R_i rfl dX6_takeLetters_111 rfl
    · have h := h.2 q
      refine Ev_aload_n dX6_takeLetters_77 rfl ?_
      refine Ev_getF 13 21 1 flX6_9 rfl dX6_takeLetters_78 ?_
      refine Ev_iload dX6_takeLetters_81 rfl ?_
      obtain ⟨g, h⟩ := h
      refine Ev_lald g dX6_takeLetters_83 ?_
      refine Ev_lload dX6_takeLetters_84 rfl ?_
      refine Ev_lcmp dX6_takeLetters_86 ?_
      refine Ev_if_ne 94 dX6_takeLetters_87 (by decide) (fun q => ?_) (fun q => ?_)
      · have h := h.1 q
        refine Ev_iinc (x8 + 1) dX6_takeLetters_94 rfl rfl (okp_of rfl) ?_
        refine Ev_goto 60 dX6_takeLetters_97 (by decide) ?_
        exact h
      · have h := h.2 q
        refine Ev_iload dX6_takeLetters_90 rfl ?_
        refine Ev_istore dX6_takeLetters_92 (Nat.le_of_ble_eq_true rfl) (okp_of rfl) ?_
        refine Ev_iinc (x8 + 1) dX6_takeLetters_94 rfl rfl (okp_of rfl) ?_
        refine Ev_goto 60 dX6_takeLetters_97 (by decide) ?_
        exact h
abbrev X5_isPart (d : Nat) (x0 : Int32) (x1 : Int32) (μ : Mem) (x : Int32) (μ' : Mem) : Prop := Me d yX5_isPart cX5_isPart 2 ((some .boolean)) [vi x0, vi x1] μ (some (vi x)) μ'
set_option maxHeartbeats 4000000 in
set_option maxRecDepth 100000 in
theorem X5_isPart_ok {d : Nat} {x0 : Int32} {x1 : Int32} {μ μ' : Mem} {x : Int32} (h : ((x0 < 0 → (x = 0 ∧ μ' = μ)) ∧ (¬ x0 < 0 → ((4 ≤ x0 → (x = 0 ∧ μ' = μ)) ∧ (¬ 4 ≤ x0 → ((x1 < 0 → (x = 0 ∧ μ' = μ)) ∧ (¬ x1 < 0 → ((8 ≤ x1 → (x = 0 ∧ μ' = μ)) ∧ (¬ 8 ≤ x1 → (x = 1 ∧ μ' = μ)))))))))) : X5_isPart d x0 x1 μ x μ' := by
  refine Me_of [some (vi x0), some (vi x1)] rfl (Nat.le_of_ble_eq_true rfl) (by decide) ?_
  refine Ev_iload_n dX5_isPart_0 rfl ?_
  refine Ev_if_lt 23 dX5_isPart_1 (by decide) (fun q => ?_) (fun q => ?_)
  · have h := h.1 q
    refine Ev_iconst 0 dX5_isPart_23 (by decide) ?_
    obtain ⟨rfl, rfl⟩ := h
    exact R_i rfl dX5_isPart_24 rfl
  · have h := h.2 q
    refine Ev_iload_n dX5_isPart_4 rfl ?_
    refine Ev_iconst 4 dX5_isPart_5 (by decide) ?_
    refine Ev_icmp_ge 23 dX5_isPart_6 (by decide) (fun q => ?_) (fun q => ?_)
    · have h := h.1 q
      refine Ev_iconst 0 dX5_isPart_23 (by decide) ?_
      obtain ⟨rfl, rfl⟩ := h
      exact R_i rfl dX5_isPart_24 rfl
    · have h := h.2 q
      refine Ev_iload_n dX5_isPart_9 rfl ?_
      refine Ev_if_lt 23 dX5_isPart_10 (by decide) (fun q => ?_) (fun q => ?_)
      · have h := h.1 q
        refine Ev_iconst 0 dX5_isPart_23 (by decide) ?_
        obtain ⟨rfl, rfl⟩ := h
        exact R_i rfl dX5_isPart_24 rfl
      · have h := h.2 q
        refine Ev_iload_n dX5_isPart_13 rfl ?_
        refine Ev_bipush 8 dX5_isPart_14 (by decide) ?_
        refine Ev_icmp_ge 23 dX5_isPart_16 (by decide) (fun q => ?_) (fun q => ?_)
        · have h := h.1 q
          refine Ev_iconst 0 dX5_isPart_23 (by decide) ?_
          obtain ⟨rfl, rfl⟩ := h
          exact R_i rfl dX5_isPart_24 rfl
        · have h := h.2 q
          refine Ev_iconst 1 dX5_isPart_19 (by decide) ?_
          refine Ev_goto 24 dX5_isPart_20 (by decide) ?_
          obtain ⟨rfl, rfl⟩ := h
          exact R_i rfl dX5_isPart_24 rfl
abbrev X5_part (d : Nat) (a : Nat) (x1 : Int32) (x2 : Int32) (μ : Mem) (x : Int32) (μ' : Mem) : Prop := Me d yX5_part cX5_part 3 ((some .int)) [vr 5 0 a, vi x1, vi x2] μ (some (vi x)) μ'
set_option maxHeartbeats 4000000 in
set_option maxRecDepth 100000 in
theorem X5_part_ok {d : Nat} {a : Nat} {x1 : Int32} {x2 : Int32} {μ μ' : Mem} {x : Int32} (h : (∃ (y3 : Int32) (μ1 : Mem), X5_isPart d x1 x2 μ y3 μ1 ∧ ((y3 = 0 → (x = 0 ∧ μ' = μ1)) ∧ (¬ y3 = 0 → vp_in ((x1 * 8) + x2) 32 ∧ (x = μ1.1 (a + 2) (((x1 * 8) + x2).toNatClampNeg) ∧ μ' = μ1))))) : X5_part (d + 1) a x1 x2 μ x μ' := by
  refine Me_of [some (vr 5 0 a), some (vi x1), some (vi x2)] rfl (Nat.le_of_ble_eq_true rfl) (by decide) ?_
  refine Ev_iload_n dX5_part_0 rfl ?_
  refine Ev_iload_n dX5_part_1 rfl ?_
  obtain ⟨y3, μ1, hM2, h⟩ := h
  refine Ev_callS [vi x1, vi x2] mlX5_62 rfl rfl (Nat.le_of_ble_eq_true rfl) dX5_part_2 hM2 ?_
  refine Ev_if_eq 22 dX5_part_5 (by decide) (fun q => ?_) (fun q => ?_)
  · have h := h.1 q
    refine Ev_iconst 0 dX5_part_22 (by decide) ?_
    obtain ⟨rfl, rfl⟩ := h
    exact R_i rfl dX5_part_23 rfl
  · have h := h.2 q
    refine Ev_aload_n dX5_part_8 rfl ?_
    refine Ev_getF 11 32 2 flX5_22 rfl dX5_part_9 ?_
    refine Ev_iload_n dX5_part_12 rfl ?_
    refine Ev_bipush 8 dX5_part_13 (by decide) ?_
    refine Ev_imul dX5_part_15 ?_
    refine Ev_iload_n dX5_part_16 rfl ?_
    refine Ev_iadd dX5_part_17 ?_
    obtain ⟨g, h⟩ := h
    refine Ev_iald g dX5_part_18 ?_
    refine Ev_goto 23 dX5_part_19 (by decide) ?_
    obtain ⟨rfl, rfl⟩ := h
    exact R_i rfl dX5_part_23 rfl
abbrev X5_sum (d : Nat) (n0 : Nat) (a0 : Nat) (μ : Mem) (x : Int32) (μ' : Mem) : Prop := Me d yX5_sum cX5_sum 3 ((some .int)) [vr 11 n0 a0] μ (some (vi x)) μ'
abbrev X5_sum_at4 (d : Nat) (n0 : Nat) (a0 : Nat) (x1 : Int32) (x2 : Int32) (μ : Mem) (x : Int32) (μ' : Mem) : Prop := Ev d yX5_sum cX5_sum 3 ((some .int)) 4 [some (vr 11 n0 a0), some (vi x1), some (vi x2)] [] μ (some (vi x)) μ'
set_option maxHeartbeats 4000000 in
set_option maxRecDepth 100000 in
theorem X5_sum_ok {d : Nat} {n0 : Nat} {a0 : Nat} {μ μ' : Mem} {x : Int32} (h : X5_sum_at4 d n0 a0 0 0 μ x μ') : X5_sum d n0 a0 μ x μ' := by
  refine Me_of [some (vr 11 n0 a0), none, none] rfl (Nat.le_of_ble_eq_true rfl) (by decide) ?_
  refine Ev_iconst 0 dX5_sum_0 (by decide) ?_
  refine Ev_istore_n dX5_sum_1 (Nat.le_of_ble_eq_true rfl) (okp_of rfl) ?_
  refine Ev_iconst 0 dX5_sum_2 (by decide) ?_
  refine Ev_istore_n dX5_sum_3 (Nat.le_of_ble_eq_true rfl) (okp_of rfl) ?_
  exact h
set_option maxHeartbeats 4000000 in
set_option maxRecDepth 100000 in
theorem X5_sum_at4_ok {d : Nat} {n0 : Nat} {a0 : Nat} {x1 : Int32} {x2 : Int32} {μ μ' : Mem} {x : Int32} (h : (((nI n0) ≤ x2 → (x = x1 ∧ μ' = μ)) ∧ (¬ (nI n0) ≤ x2 → vp_in x2 n0 ∧ X5_sum_at4 d n0 a0 (x1 + (μ.1 a0 x2.toNatClampNeg)) (x2 + 1) μ x μ'))) : X5_sum_at4 d n0 a0 x1 x2 μ x μ' := by
  refine Ev_iload_n dX5_sum_4 rfl ?_
  refine Ev_aload_n dX5_sum_5 rfl ?_
  refine Ev_alen (nI n0) (by decide) (by decide) rfl dX5_sum_6 ?_
  refine Ev_icmp_ge 22 dX5_sum_7 (by decide) (fun q => ?_) (fun q => ?_)
  · have h := h.1 q
    refine Ev_iload_n dX5_sum_22 rfl ?_
    obtain ⟨rfl, rfl⟩ := h
    exact R_i rfl dX5_sum_23 rfl
  · have h := h.2 q
    refine Ev_iload_n dX5_sum_10 rfl ?_
    refine Ev_aload_n dX5_sum_11 rfl ?_
    refine Ev_iload_n dX5_sum_12 rfl ?_
    obtain ⟨g, h⟩ := h
    refine Ev_iald g dX5_sum_13 ?_
    refine Ev_iadd dX5_sum_14 ?_
    refine Ev_istore_n dX5_sum_15 (Nat.le_of_ble_eq_true rfl) (okp_of rfl) ?_
    refine Ev_iinc (x2 + 1) dX5_sum_16 rfl rfl (okp_of rfl) ?_
    refine Ev_goto 4 dX5_sum_19 (by decide) ?_
    exact h
abbrev X1_worked (d : Nat) (x0 : Int32) (x1 : Int32) (x2 : Int32) (μ : Mem) (x : Int32) (μ' : Mem) : Prop := Me d yX1_worked cX1_worked 3 ((some .int)) [vi x0, vi x1, vi x2] μ (some (vi x)) μ'
set_option maxHeartbeats 4000000 in
set_option maxRecDepth 100000 in
theorem X1_worked_ok {d : Nat} {x0 : Int32} {x1 : Int32} {x2 : Int32} {μ μ' : Mem} {x : Int32} (h : ((x0 = (-12) → (x = x1 * x2 ∧ μ' = μ)) ∧ (x0 = (-11) → (x = x1 - x2 ∧ μ' = μ)) ∧ (x0 = (-10) → (x = x1 + x2 ∧ μ' = μ)) ∧ (((x0).toInt < (-12) ∨ (-10) < (x0).toInt) → ((x2 ≠ 0 → ¬ x2 = 0 ∧ (x = x1 / x2 ∧ μ' = μ)) ∧ (x2 = 0 → (x = 0 ∧ μ' = μ)))))) : X1_worked d x0 x1 x2 μ x μ' := by
  refine Me_of [some (vi x0), some (vi x1), some (vi x2)] rfl (Nat.le_of_ble_eq_true rfl) (by decide) ?_
  refine Ev_iload_n dX1_worked_0 rfl ?_
  refine Ev_tab 40 dX1_worked_1 (by decide) (fun k hk e => ?_) (fun q => ?_)
  · rcases (show k = 0 ∨ k = 1 ∨ k = 2 by omega) with rfl | rfl | rfl
    · have h := h.1 (Int32.toInt_inj.mp (e.trans (by decide)))
      refine ⟨_, 36, rfl, by decide, ?_⟩
      refine Ev_iload_n dX1_worked_36 rfl ?_
      refine Ev_iload_n dX1_worked_37 rfl ?_
      refine Ev_imul dX1_worked_38 ?_
      obtain ⟨rfl, rfl⟩ := h
      exact R_i rfl dX1_worked_39 rfl
    · have h := h.2.1 (Int32.toInt_inj.mp (e.trans (by decide)))
      refine ⟨_, 32, rfl, by decide, ?_⟩
      refine Ev_iload_n dX1_worked_32 rfl ?_
      refine Ev_iload_n dX1_worked_33 rfl ?_
      refine Ev_isub dX1_worked_34 ?_
      obtain ⟨rfl, rfl⟩ := h
      exact R_i rfl dX1_worked_35 rfl
    · have h := h.2.2.1 (Int32.toInt_inj.mp (e.trans (by decide)))
      refine ⟨_, 28, rfl, by decide, ?_⟩
      refine Ev_iload_n dX1_worked_28 rfl ?_
      refine Ev_iload_n dX1_worked_29 rfl ?_
      refine Ev_iadd dX1_worked_30 ?_
      obtain ⟨rfl, rfl⟩ := h
      exact R_i rfl dX1_worked_31 rfl
  · have h := h.2.2.2 q
    refine Ev_iload_n dX1_worked_40 rfl ?_
    refine Ev_if_ne 48 dX1_worked_41 (by decide) (fun q => ?_) (fun q => ?_)
    · have h := h.1 q
      refine Ev_iload_n dX1_worked_48 rfl ?_
      refine Ev_iload_n dX1_worked_49 rfl ?_
      obtain ⟨g, h⟩ := h
      refine Ev_idiv dX1_worked_50 g ?_
      obtain ⟨rfl, rfl⟩ := h
      exact R_i rfl dX1_worked_51 rfl
    · have h := h.2 q
      refine Ev_iconst 0 dX1_worked_44 (by decide) ?_
      refine Ev_goto 51 dX1_worked_45 (by decide) ?_
      obtain ⟨rfl, rfl⟩ := h
      exact R_i rfl dX1_worked_51 rfl
