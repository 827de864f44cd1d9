abbrev X6_init_at44 (d : Nat)  (μ : Mem) (μ' : Mem) : Prop := Ev (d + 1) yX6_init cX6_init 6 (none) 44 [some (vr 6 0 0), none, none, none, none, none] [] μ none μ'
abbrev X6_init_at51 (d : Nat) (x1 : Int32) (x2 : Int64) (x4 : Int32) (μ : Mem) (μ' : Mem) : Prop := Ev (d + 1) yX6_init cX6_init 6 (none) 51 [some (vr 6 0 0), some (vi x1), some (vl x2), none, some (vi x4), none] [] μ none μ'
set_option maxHeartbeats 4000000 in
set_option maxRecDepth 100000 in
theorem X6_init_at44_ok {d : Nat}  {μ μ' : Mem} (h : X6_init_at51 d 0 0 0 μ μ') : X6_init_at44 d μ μ' := by
  refine Ev_iconst 0 dX6_init_44 (by decide) ?_
  refine Ev_istore_n dX6_init_45 (Nat.le_of_ble_eq_true rfl) (okp_of rfl) ?_
  refine Ev_lconst 0 dX6_init_46 (by decide) ?_
  refine Ev_lstore_n dX6_init_47 (Nat.le_of_ble_eq_true rfl) (okp_of rfl) ?_
  refine Ev_iconst 0 dX6_init_48 (by decide) ?_
  refine Ev_istore dX6_init_49 (Nat.le_of_ble_eq_true rfl) (okp_of rfl) ?_
  exact h
set_option maxHeartbeats 4000000 in
set_option maxRecDepth 100000 in
theorem X6_init_at51_ok {d : Nat} {x1 : Int32} {x2 : Int64} {x4 : Int32} {μ μ' : Mem} (h : (∃ (y3 : Int32) (μ1 : Mem), J0_length_8abf5 d 0 1000000 μ y3 μ1 ∧ ((y3 ≤ x4 → μ' = μ1) ∧ (¬ y3 ≤ x4 → ((21 ≤ x1 → μ' = μ1) ∧ (¬ 21 ≤ x1 → (∃ (y6 : Int32) (μ4 : Mem), J0_charAt_5068e d 0 1000000 x4 μ1 y6 μ4 ∧ ((y6 ≠ 32 → (∃ (y9 : Int64) (μ7 : Mem), X6_nameWith d x2 y6 μ4 y9 μ7 ∧ X6_init_at51 d x1 y9 (x4 + 1) μ7 μ')) ∧ (y6 = 32 → vp_in x1 21 ∧ (∀ μ10 : Mem, μ10 = sJ μ4 1 x1.toNatClampNeg x2 → X6_init_at51 d (x1 + 1) 0 (x4 + 1) μ10 μ')))))))))) : X6_init_at51 d x1 x2 x4 μ μ' := by
  refine Ev_iload dX6_init_51 rfl ?_
  refine Ev_ldcW rfl dX6_init_53 ?_
  obtain ⟨y3, μ1, hM2, h⟩ := h
  refine Ev_callT [] mlX6_29 rfl rfl (Nat.le_of_ble_eq_true rfl) dX6_init_55 hM2 ?_
  refine Ev_icmp_ge 114 dX6_init_58 (by decide) (fun q => ?_) (fun q => ?_)
  · have h := h.1 q
    subst h
    exact R_v rfl dX6_init_114
  · have h := h.2 q
    refine Ev_iload_n dX6_init_61 rfl ?_
    refine Ev_aload_n dX6_init_62 rfl ?_
    refine Ev_getF 13 21 1 flX6_9 rfl dX6_init_63 ?_
    refine Ev_alen (21) (by decide) (by decide) (by decide) dX6_init_66 ?_
    refine Ev_icmp_ge 114 dX6_init_67 (by decide) (fun q => ?_) (fun q => ?_)
    · have h := h.1 q
      subst h
      exact R_v rfl dX6_init_114
    · have h := h.2 q
      refine Ev_ldcW rfl dX6_init_70 ?_
      refine Ev_iload dX6_init_72 rfl ?_
      obtain ⟨y6, μ4, hM5, h⟩ := h
      refine Ev_callT [_] mlX6_35 rfl rfl (Nat.le_of_ble_eq_true rfl) dX6_init_74 hM5 ?_
      refine Ev_istore dX6_init_77 (Nat.le_of_ble_eq_true rfl) (okp_of rfl) ?_
      refine Ev_iload dX6_init_79 rfl ?_
      refine Ev_bipush 32 dX6_init_81 (by decide) ?_
      refine Ev_icmp_ne 101 dX6_init_83 (by decide) (fun q => ?_) (fun q => ?_)
      · have h := h.1 q
        refine Ev_lload_n dX6_init_101 rfl ?_
        refine Ev_iload dX6_init_102 rfl ?_
        obtain ⟨y9, μ7, hM8, h⟩ := h
        refine Ev_callS [_, _] mlX6_39 rfl rfl (Nat.le_of_ble_eq_true rfl) dX6_init_104 hM8 ?_
        refine Ev_lstore_n dX6_init_107 (Nat.le_of_ble_eq_true rfl) (okp_of rfl) ?_
        refine Ev_iinc (x4 + 1) dX6_init_108 rfl rfl (okp_of rfl) ?_
        refine Ev_goto 51 dX6_init_111 (by decide) ?_
        refine Ev_weak ?_ h
        exact And.intro rfl (And.intro rfl (And.intro rfl (And.intro trivial (And.intro rfl (And.intro trivial (trivial))))))
      · have h := h.2 q
        refine Ev_aload_n dX6_init_86 rfl ?_
        refine Ev_getF 13 21 1 flX6_9 rfl dX6_init_87 ?_
        refine Ev_iload_n dX6_init_90 rfl ?_
        refine Ev_lload_n dX6_init_91 rfl ?_
        obtain ⟨g, h⟩ := h
        refine Ev_last g dX6_init_92 ?_
        have h := h _ rfl
        refine Ev_iinc (x1 + 1) dX6_init_93 rfl rfl (okp_of rfl) ?_
        refine Ev_lconst 0 dX6_init_96 (by decide) ?_
        refine Ev_lstore_n dX6_init_97 (Nat.le_of_ble_eq_true rfl) (okp_of rfl) ?_
        refine Ev_goto 108 dX6_init_98 (by decide) ?_
        refine Ev_iinc (x4 + 1) dX6_init_108 rfl rfl (okp_of rfl) ?_
        refine Ev_goto 51 dX6_init_111 (by decide) ?_
        refine Ev_weak ?_ h
        exact And.intro rfl (And.intro rfl (And.intro rfl (And.intro trivial (And.intro rfl (And.intro trivial (trivial))))))
