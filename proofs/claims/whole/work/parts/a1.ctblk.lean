/-! ===== the ends of the two constructors ===== -/
abbrev X9_init_at163 (d : Nat)  (μ : Mem) (μ' : Mem) : Prop := Ev (d + 1) yX9_init cX9_init 2 (none) 163 [some (vr 9 0 0), none] [] μ none μ'
set_option maxHeartbeats 4000000 in
set_option maxRecDepth 100000 in
theorem X9_init_at163_ok {d : Nat}  {μ μ' : Mem} (h : (∃ (μ1 : Mem), X5_begin d 13 (μ.2.2 0 4) μ μ1 ∧ μ' = μ1)) : X9_init_at163 d μ μ' := by
  refine Ev_aload_n dX9_init_163 rfl ?_
  refine Ev_getF 5 0 13 flX9_46 rfl dX9_init_164 ?_
  refine Ev_aload_n dX9_init_167 rfl ?_
  refine Ev_getP flX9_30 rfl dX9_init_168 ?_
  obtain ⟨μ1, hM2, h⟩ := h
  refine Ev_callV [_] mlX9_86 rfl rfl (Nat.le_of_ble_eq_true rfl) dX9_init_171 hM2 ?_
  subst h
  exact R_v rfl dX9_init_174
abbrev X10_init_at383 (d : Nat)  (μ : Mem) (μ' : Mem) : Prop := Ev (d + 1) yX10_init cX10_init 1 (none) 383 [some (vr 10 0 0)] [] μ none μ'
set_option maxHeartbeats 4000000 in
set_option maxRecDepth 100000 in
theorem X10_init_at383_ok {d : Nat}  {μ μ' : Mem} (h : (∃ (μ1 : Mem), X10_plain d 0 μ μ1 ∧ (∃ (y5 : Int64) (μ3 : Mem), X10_word d 114 111 119 0 0 0 0 μ1 y5 μ3 ∧ (∀ μ6 : Mem, μ6 = sJ μ3 7 0 y5 → (∃ (y9 : Int64) (μ7 : Mem), X10_word d 102 105 101 108 100 0 0 μ6 y9 μ7 ∧ (∀ μ10 : Mem, μ10 = sJ μ7 7 1 y9 → (∃ (y13 : Int64) (μ11 : Mem), X10_word d 108 111 111 109 0 0 0 μ10 y13 μ11 ∧ (∀ μ14 : Mem, μ14 = sJ μ11 7 2 y13 → (∃ (y17 : Int64) (μ15 : Mem), X10_word d 119 101 97 118 101 115 0 μ14 y17 μ15 ∧ (∀ μ18 : Mem, μ18 = sJ μ15 7 3 y17 → (∃ (y21 : Int64) (μ19 : Mem), X10_word d 100 114 105 101 115 0 0 μ18 y21 μ19 ∧ (∀ μ22 : Mem, μ22 = sJ μ19 7 4 y21 → (∃ (y25 : Int64) (μ23 : Mem), X10_word d 103 97 116 104 101 114 115 μ22 y25 μ23 ∧ (∀ μ26 : Mem, μ26 = sJ μ23 7 5 y25 → (∃ (y29 : Int64) (μ27 : Mem), X10_word d 115 116 111 114 101 0 0 μ26 y29 μ27 ∧ (∀ μ30 : Mem, μ30 = sJ μ27 7 6 y29 → (∃ (y33 : Int64) (μ31 : Mem), X10_word d 103 117 115 116 115 0 0 μ30 y33 μ31 ∧ (∀ μ34 : Mem, μ34 = sJ μ31 7 7 y33 → (∃ (y37 : Int64) (μ35 : Mem), X10_word d 115 101 101 100 0 0 0 μ34 y37 μ35 ∧ (∀ μ38 : Mem, μ38 = sJ μ35 7 8 y37 → (∃ (y41 : Int64) (μ39 : Mem), X10_word d 105 102 0 0 0 0 0 μ38 y41 μ39 ∧ (∀ μ42 : Mem, μ42 = sJ μ39 7 9 y41 → (∃ (y45 : Int64) (μ43 : Mem), X10_word d 116 104 101 110 0 0 0 μ42 y45 μ43 ∧ (∀ μ46 : Mem, μ46 = sJ μ43 7 10 y45 → (∃ (y49 : Int64) (μ47 : Mem), X10_word d 101 108 115 101 0 0 0 μ46 y49 μ47 ∧ (∀ μ50 : Mem, μ50 = sJ μ47 7 11 y49 → (∃ (y53 : Int64) (μ51 : Mem), X10_word d 115 104 101 100 0 0 0 μ50 y53 μ51 ∧ (∀ μ54 : Mem, μ54 = sJ μ51 7 12 y53 → (∃ (y57 : Int64) (μ55 : Mem), X10_word d 119 97 114 112 0 0 0 μ54 y57 μ55 ∧ (∀ μ58 : Mem, μ58 = sJ μ55 7 13 y57 → (∃ (y61 : Int64) (μ59 : Mem), X10_word d 112 105 99 107 0 0 0 μ58 y61 μ59 ∧ (∀ μ62 : Mem, μ62 = sJ μ59 7 14 y61 → (∃ (y65 : Int64) (μ63 : Mem), X10_word d 119 97 116 101 114 0 0 μ62 y65 μ63 ∧ (∀ μ66 : Mem, μ66 = sJ μ63 7 15 y65 → (∃ (y69 : Int64) (μ67 : Mem), X10_word d 110 101 101 100 115 0 0 μ66 y69 μ67 ∧ (∀ μ70 : Mem, μ70 = sJ μ67 7 16 y69 → (∃ (y73 : Int64) (μ71 : Mem), X10_word d 100 114 111 119 110 115 0 μ70 y73 μ71 ∧ (∀ μ74 : Mem, μ74 = sJ μ71 7 17 y73 → (∃ (y77 : Int64) (μ75 : Mem), X10_word d 100 97 121 0 0 0 0 μ74 y77 μ75 ∧ (∀ μ78 : Mem, μ78 = sJ μ75 7 18 y77 → (∃ (y81 : Int64) (μ79 : Mem), X10_word d 119 104 105 99 104 0 0 μ78 y81 μ79 ∧ (∀ μ82 : Mem, μ82 = sJ μ79 7 19 y81 → (∃ (y85 : Int64) (μ83 : Mem), X10_word d 119 105 100 101 0 0 0 μ82 y85 μ83 ∧ (∀ μ86 : Mem, μ86 = sJ μ83 7 20 y85 → (∃ (μ87 : Mem), X10_begins d μ86 μ87 ∧ (∃ (μ89 : Mem), X10_keepsRow d μ87 μ89 ∧ μ' = μ89)))))))))))))))))))))))))))))))))))))))))))))) : X10_init_at383 d μ μ' := by
  refine Ev_aload_n dX10_init_383 rfl ?_
  refine Ev_iconst 0 dX10_init_384 (by decide) ?_
  obtain ⟨μ1, hM2, h⟩ := h
  refine Ev_callV [_] mlX10_158 rfl rfl (Nat.le_of_ble_eq_true rfl) dX10_init_385 hM2 ?_
  refine Ev_aload_n dX10_init_388 rfl ?_
  refine Ev_getF 13 21 7 flX10_34 rfl dX10_init_389 ?_
  refine Ev_iconst 0 dX10_init_392 (by decide) ?_
  refine Ev_bipush 114 dX10_init_393 (by decide) ?_
  refine Ev_bipush 111 dX10_init_395 (by decide) ?_
  refine Ev_bipush 119 dX10_init_397 (by decide) ?_
  refine Ev_iconst 0 dX10_init_399 (by decide) ?_
  refine Ev_iconst 0 dX10_init_400 (by decide) ?_
  refine Ev_iconst 0 dX10_init_401 (by decide) ?_
  refine Ev_iconst 0 dX10_init_402 (by decide) ?_
  obtain ⟨y5, μ3, hM4, h⟩ := h
  refine Ev_callS [_, _, _, _, _, _, _] mlX10_162 rfl rfl (Nat.le_of_ble_eq_true rfl) dX10_init_403 hM4 ?_
  refine Ev_last (n := 21) (vp_lit (by decide)) dX10_init_406 ?_
  have h := h _ rfl
  refine Ev_aload_n dX10_init_407 rfl ?_
  refine Ev_getF 13 21 7 flX10_34 rfl dX10_init_408 ?_
  refine Ev_iconst 1 dX10_init_411 (by decide) ?_
  refine Ev_bipush 102 dX10_init_412 (by decide) ?_
  refine Ev_bipush 105 dX10_init_414 (by decide) ?_
  refine Ev_bipush 101 dX10_init_416 (by decide) ?_
  refine Ev_bipush 108 dX10_init_418 (by decide) ?_
  refine Ev_bipush 100 dX10_init_420 (by decide) ?_
  refine Ev_iconst 0 dX10_init_422 (by decide) ?_
  refine Ev_iconst 0 dX10_init_423 (by decide) ?_
  obtain ⟨y9, μ7, hM8, h⟩ := h
  refine Ev_callS [_, _, _, _, _, _, _] mlX10_162 rfl rfl (Nat.le_of_ble_eq_true rfl) dX10_init_424 hM8 ?_
  refine Ev_last (n := 21) (vp_lit (by decide)) dX10_init_427 ?_
  have h := h _ rfl
  refine Ev_aload_n dX10_init_428 rfl ?_
  refine Ev_getF 13 21 7 flX10_34 rfl dX10_init_429 ?_
  refine Ev_iconst 2 dX10_init_432 (by decide) ?_
  refine Ev_bipush 108 dX10_init_433 (by decide) ?_
  refine Ev_bipush 111 dX10_init_435 (by decide) ?_
  refine Ev_bipush 111 dX10_init_437 (by decide) ?_
  refine Ev_bipush 109 dX10_init_439 (by decide) ?_
  refine Ev_iconst 0 dX10_init_441 (by decide) ?_
  refine Ev_iconst 0 dX10_init_442 (by decide) ?_
  refine Ev_iconst 0 dX10_init_443 (by decide) ?_
  obtain ⟨y13, μ11, hM12, h⟩ := h
  refine Ev_callS [_, _, _, _, _, _, _] mlX10_162 rfl rfl (Nat.le_of_ble_eq_true rfl) dX10_init_444 hM12 ?_
  refine Ev_last (n := 21) (vp_lit (by decide)) dX10_init_447 ?_
  have h := h _ rfl
  refine Ev_aload_n dX10_init_448 rfl ?_
  refine Ev_getF 13 21 7 flX10_34 rfl dX10_init_449 ?_
  refine Ev_iconst 3 dX10_init_452 (by decide) ?_
  refine Ev_bipush 119 dX10_init_453 (by decide) ?_
  refine Ev_bipush 101 dX10_init_455 (by decide) ?_
  refine Ev_bipush 97 dX10_init_457 (by decide) ?_
  refine Ev_bipush 118 dX10_init_459 (by decide) ?_
  refine Ev_bipush 101 dX10_init_461 (by decide) ?_
  refine Ev_bipush 115 dX10_init_463 (by decide) ?_
  refine Ev_iconst 0 dX10_init_465 (by decide) ?_
  obtain ⟨y17, μ15, hM16, h⟩ := h
  refine Ev_callS [_, _, _, _, _, _, _] mlX10_162 rfl rfl (Nat.le_of_ble_eq_true rfl) dX10_init_466 hM16 ?_
  refine Ev_last (n := 21) (vp_lit (by decide)) dX10_init_469 ?_
  have h := h _ rfl
  refine Ev_aload_n dX10_init_470 rfl ?_
  refine Ev_getF 13 21 7 flX10_34 rfl dX10_init_471 ?_
  refine Ev_iconst 4 dX10_init_474 (by decide) ?_
  refine Ev_bipush 100 dX10_init_475 (by decide) ?_
  refine Ev_bipush 114 dX10_init_477 (by decide) ?_
  refine Ev_bipush 105 dX10_init_479 (by decide) ?_
  refine Ev_bipush 101 dX10_init_481 (by decide) ?_
  refine Ev_bipush 115 dX10_init_483 (by decide) ?_
  refine Ev_iconst 0 dX10_init_485 (by decide) ?_
  refine Ev_iconst 0 dX10_init_486 (by decide) ?_
  obtain ⟨y21, μ19, hM20, h⟩ := h
  refine Ev_callS [_, _, _, _, _, _, _] mlX10_162 rfl rfl (Nat.le_of_ble_eq_true rfl) dX10_init_487 hM20 ?_
  refine Ev_last (n := 21) (vp_lit (by decide)) dX10_init_490 ?_
  have h := h _ rfl
  refine Ev_aload_n dX10_init_491 rfl ?_
  refine Ev_getF 13 21 7 flX10_34 rfl dX10_init_492 ?_
  refine Ev_iconst 5 dX10_init_495 (by decide) ?_
  refine Ev_bipush 103 dX10_init_496 (by decide) ?_
  refine Ev_bipush 97 dX10_init_498 (by decide) ?_
  refine Ev_bipush 116 dX10_init_500 (by decide) ?_
  refine Ev_bipush 104 dX10_init_502 (by decide) ?_
  refine Ev_bipush 101 dX10_init_504 (by decide) ?_
  refine Ev_bipush 114 dX10_init_506 (by decide) ?_
  refine Ev_bipush 115 dX10_init_508 (by decide) ?_
  obtain ⟨y25, μ23, hM24, h⟩ := h
  refine Ev_callS [_, _, _, _, _, _, _] mlX10_162 rfl rfl (Nat.le_of_ble_eq_true rfl) dX10_init_510 hM24 ?_
  refine Ev_last (n := 21) (vp_lit (by decide)) dX10_init_513 ?_
  have h := h _ rfl
  refine Ev_aload_n dX10_init_514 rfl ?_
  refine Ev_getF 13 21 7 flX10_34 rfl dX10_init_515 ?_
  refine Ev_bipush 6 dX10_init_518 (by decide) ?_
  refine Ev_bipush 115 dX10_init_520 (by decide) ?_
  refine Ev_bipush 116 dX10_init_522 (by decide) ?_
  refine Ev_bipush 111 dX10_init_524 (by decide) ?_
  refine Ev_bipush 114 dX10_init_526 (by decide) ?_
  refine Ev_bipush 101 dX10_init_528 (by decide) ?_
  refine Ev_iconst 0 dX10_init_530 (by decide) ?_
  refine Ev_iconst 0 dX10_init_531 (by decide) ?_
  obtain ⟨y29, μ27, hM28, h⟩ := h
  refine Ev_callS [_, _, _, _, _, _, _] mlX10_162 rfl rfl (Nat.le_of_ble_eq_true rfl) dX10_init_532 hM28 ?_
  refine Ev_last (n := 21) (vp_lit (by decide)) dX10_init_535 ?_
  have h := h _ rfl
  refine Ev_aload_n dX10_init_536 rfl ?_
  refine Ev_getF 13 21 7 flX10_34 rfl dX10_init_537 ?_
  refine Ev_bipush 7 dX10_init_540 (by decide) ?_
  refine Ev_bipush 103 dX10_init_542 (by decide) ?_
  refine Ev_bipush 117 dX10_init_544 (by decide) ?_
  refine Ev_bipush 115 dX10_init_546 (by decide) ?_
  refine Ev_bipush 116 dX10_init_548 (by decide) ?_
  refine Ev_bipush 115 dX10_init_550 (by decide) ?_
  refine Ev_iconst 0 dX10_init_552 (by decide) ?_
  refine Ev_iconst 0 dX10_init_553 (by decide) ?_
  obtain ⟨y33, μ31, hM32, h⟩ := h
  refine Ev_callS [_, _, _, _, _, _, _] mlX10_162 rfl rfl (Nat.le_of_ble_eq_true rfl) dX10_init_554 hM32 ?_
  refine Ev_last (n := 21) (vp_lit (by decide)) dX10_init_557 ?_
  have h := h _ rfl
  refine Ev_aload_n dX10_init_558 rfl ?_
  refine Ev_getF 13 21 7 flX10_34 rfl dX10_init_559 ?_
  refine Ev_bipush 8 dX10_init_562 (by decide) ?_
  refine Ev_bipush 115 dX10_init_564 (by decide) ?_
  refine Ev_bipush 101 dX10_init_566 (by decide) ?_
  refine Ev_bipush 101 dX10_init_568 (by decide) ?_
  refine Ev_bipush 100 dX10_init_570 (by decide) ?_
  refine Ev_iconst 0 dX10_init_572 (by decide) ?_
  refine Ev_iconst 0 dX10_init_573 (by decide) ?_
  refine Ev_iconst 0 dX10_init_574 (by decide) ?_
  obtain ⟨y37, μ35, hM36, h⟩ := h
  refine Ev_callS [_, _, _, _, _, _, _] mlX10_162 rfl rfl (Nat.le_of_ble_eq_true rfl) dX10_init_575 hM36 ?_
  refine Ev_last (n := 21) (vp_lit (by decide)) dX10_init_578 ?_
  have h := h _ rfl
  refine Ev_aload_n dX10_init_579 rfl ?_
  refine Ev_getF 13 21 7 flX10_34 rfl dX10_init_580 ?_
  refine Ev_bipush 9 dX10_init_583 (by decide) ?_
  refine Ev_bipush 105 dX10_init_585 (by decide) ?_
  refine Ev_bipush 102 dX10_init_587 (by decide) ?_
  refine Ev_iconst 0 dX10_init_589 (by decide) ?_
  refine Ev_iconst 0 dX10_init_590 (by decide) ?_
  refine Ev_iconst 0 dX10_init_591 (by decide) ?_
  refine Ev_iconst 0 dX10_init_592 (by decide) ?_
  refine Ev_iconst 0 dX10_init_593 (by decide) ?_
  obtain ⟨y41, μ39, hM40, h⟩ := h
  refine Ev_callS [_, _, _, _, _, _, _] mlX10_162 rfl rfl (Nat.le_of_ble_eq_true rfl) dX10_init_594 hM40 ?_
  refine Ev_last (n := 21) (vp_lit (by decide)) dX10_init_597 ?_
  have h := h _ rfl
  refine Ev_aload_n dX10_init_598 rfl ?_
  refine Ev_getF 13 21 7 flX10_34 rfl dX10_init_599 ?_
  refine Ev_bipush 10 dX10_init_602 (by decide) ?_
  refine Ev_bipush 116 dX10_init_604 (by decide) ?_
  refine Ev_bipush 104 dX10_init_606 (by decide) ?_
  refine Ev_bipush 101 dX10_init_608 (by decide) ?_
  refine Ev_bipush 110 dX10_init_610 (by decide) ?_
  refine Ev_iconst 0 dX10_init_612 (by decide) ?_
  refine Ev_iconst 0 dX10_init_613 (by decide) ?_
  refine Ev_iconst 0 dX10_init_614 (by decide) ?_
  obtain ⟨y45, μ43, hM44, h⟩ := h
  refine Ev_callS [_, _, _, _, _, _, _] mlX10_162 rfl rfl (Nat.le_of_ble_eq_true rfl) dX10_init_615 hM44 ?_
  refine Ev_last (n := 21) (vp_lit (by decide)) dX10_init_618 ?_
  have h := h _ rfl
  refine Ev_aload_n dX10_init_619 rfl ?_
  refine Ev_getF 13 21 7 flX10_34 rfl dX10_init_620 ?_
  refine Ev_bipush 11 dX10_init_623 (by decide) ?_
  refine Ev_bipush 101 dX10_init_625 (by decide) ?_
  refine Ev_bipush 108 dX10_init_627 (by decide) ?_
  refine Ev_bipush 115 dX10_init_629 (by decide) ?_
  refine Ev_bipush 101 dX10_init_631 (by decide) ?_
  refine Ev_iconst 0 dX10_init_633 (by decide) ?_
  refine Ev_iconst 0 dX10_init_634 (by decide) ?_
  refine Ev_iconst 0 dX10_init_635 (by decide) ?_
  obtain ⟨y49, μ47, hM48, h⟩ := h
  refine Ev_callS [_, _, _, _, _, _, _] mlX10_162 rfl rfl (Nat.le_of_ble_eq_true rfl) dX10_init_636 hM48 ?_
  refine Ev_last (n := 21) (vp_lit (by decide)) dX10_init_639 ?_
  have h := h _ rfl
  refine Ev_aload_n dX10_init_640 rfl ?_
  refine Ev_getF 13 21 7 flX10_34 rfl dX10_init_641 ?_
  refine Ev_bipush 12 dX10_init_644 (by decide) ?_
  refine Ev_bipush 115 dX10_init_646 (by decide) ?_
  refine Ev_bipush 104 dX10_init_648 (by decide) ?_
  refine Ev_bipush 101 dX10_init_650 (by decide) ?_
  refine Ev_bipush 100 dX10_init_652 (by decide) ?_
  refine Ev_iconst 0 dX10_init_654 (by decide) ?_
  refine Ev_iconst 0 dX10_init_655 (by decide) ?_
  refine Ev_iconst 0 dX10_init_656 (by decide) ?_
  obtain ⟨y53, μ51, hM52, h⟩ := h
  refine Ev_callS [_, _, _, _, _, _, _] mlX10_162 rfl rfl (Nat.le_of_ble_eq_true rfl) dX10_init_657 hM52 ?_
  refine Ev_last (n := 21) (vp_lit (by decide)) dX10_init_660 ?_
  have h := h _ rfl
  refine Ev_aload_n dX10_init_661 rfl ?_
  refine Ev_getF 13 21 7 flX10_34 rfl dX10_init_662 ?_
  refine Ev_bipush 13 dX10_init_665 (by decide) ?_
  refine Ev_bipush 119 dX10_init_667 (by decide) ?_
  refine Ev_bipush 97 dX10_init_669 (by decide) ?_
  refine Ev_bipush 114 dX10_init_671 (by decide) ?_
  refine Ev_bipush 112 dX10_init_673 (by decide) ?_
  refine Ev_iconst 0 dX10_init_675 (by decide) ?_
  refine Ev_iconst 0 dX10_init_676 (by decide) ?_
  refine Ev_iconst 0 dX10_init_677 (by decide) ?_
  obtain ⟨y57, μ55, hM56, h⟩ := h
  refine Ev_callS [_, _, _, _, _, _, _] mlX10_162 rfl rfl (Nat.le_of_ble_eq_true rfl) dX10_init_678 hM56 ?_
  refine Ev_last (n := 21) (vp_lit (by decide)) dX10_init_681 ?_
  have h := h _ rfl
  refine Ev_aload_n dX10_init_682 rfl ?_
  refine Ev_getF 13 21 7 flX10_34 rfl dX10_init_683 ?_
  refine Ev_bipush 14 dX10_init_686 (by decide) ?_
  refine Ev_bipush 112 dX10_init_688 (by decide) ?_
  refine Ev_bipush 105 dX10_init_690 (by decide) ?_
  refine Ev_bipush 99 dX10_init_692 (by decide) ?_
  refine Ev_bipush 107 dX10_init_694 (by decide) ?_
  refine Ev_iconst 0 dX10_init_696 (by decide) ?_
  refine Ev_iconst 0 dX10_init_697 (by decide) ?_
  refine Ev_iconst 0 dX10_init_698 (by decide) ?_
  obtain ⟨y61, μ59, hM60, h⟩ := h
  refine Ev_callS [_, _, _, _, _, _, _] mlX10_162 rfl rfl (Nat.le_of_ble_eq_true rfl) dX10_init_699 hM60 ?_
  refine Ev_last (n := 21) (vp_lit (by decide)) dX10_init_702 ?_
  have h := h _ rfl
  refine Ev_aload_n dX10_init_703 rfl ?_
  refine Ev_getF 13 21 7 flX10_34 rfl dX10_init_704 ?_
  refine Ev_bipush 15 dX10_init_707 (by decide) ?_
  refine Ev_bipush 119 dX10_init_709 (by decide) ?_
  refine Ev_bipush 97 dX10_init_711 (by decide) ?_
  refine Ev_bipush 116 dX10_init_713 (by decide) ?_
  refine Ev_bipush 101 dX10_init_715 (by decide) ?_
  refine Ev_bipush 114 dX10_init_717 (by decide) ?_
  refine Ev_iconst 0 dX10_init_719 (by decide) ?_
  refine Ev_iconst 0 dX10_init_720 (by decide) ?_
  obtain ⟨y65, μ63, hM64, h⟩ := h
  refine Ev_callS [_, _, _, _, _, _, _] mlX10_162 rfl rfl (Nat.le_of_ble_eq_true rfl) dX10_init_721 hM64 ?_
  refine Ev_last (n := 21) (vp_lit (by decide)) dX10_init_724 ?_
  have h := h _ rfl
  refine Ev_aload_n dX10_init_725 rfl ?_
  refine Ev_getF 13 21 7 flX10_34 rfl dX10_init_726 ?_
  refine Ev_bipush 16 dX10_init_729 (by decide) ?_
  refine Ev_bipush 110 dX10_init_731 (by decide) ?_
  refine Ev_bipush 101 dX10_init_733 (by decide) ?_
  refine Ev_bipush 101 dX10_init_735 (by decide) ?_
  refine Ev_bipush 100 dX10_init_737 (by decide) ?_
  refine Ev_bipush 115 dX10_init_739 (by decide) ?_
  refine Ev_iconst 0 dX10_init_741 (by decide) ?_
  refine Ev_iconst 0 dX10_init_742 (by decide) ?_
  obtain ⟨y69, μ67, hM68, h⟩ := h
  refine Ev_callS [_, _, _, _, _, _, _] mlX10_162 rfl rfl (Nat.le_of_ble_eq_true rfl) dX10_init_743 hM68 ?_
  refine Ev_last (n := 21) (vp_lit (by decide)) dX10_init_746 ?_
  have h := h _ rfl
  refine Ev_aload_n dX10_init_747 rfl ?_
  refine Ev_getF 13 21 7 flX10_34 rfl dX10_init_748 ?_
  refine Ev_bipush 17 dX10_init_751 (by decide) ?_
  refine Ev_bipush 100 dX10_init_753 (by decide) ?_
  refine Ev_bipush 114 dX10_init_755 (by decide) ?_
  refine Ev_bipush 111 dX10_init_757 (by decide) ?_
  refine Ev_bipush 119 dX10_init_759 (by decide) ?_
  refine Ev_bipush 110 dX10_init_761 (by decide) ?_
  refine Ev_bipush 115 dX10_init_763 (by decide) ?_
  refine Ev_iconst 0 dX10_init_765 (by decide) ?_
  obtain ⟨y73, μ71, hM72, h⟩ := h
  refine Ev_callS [_, _, _, _, _, _, _] mlX10_162 rfl rfl (Nat.le_of_ble_eq_true rfl) dX10_init_766 hM72 ?_
  refine Ev_last (n := 21) (vp_lit (by decide)) dX10_init_769 ?_
  have h := h _ rfl
  refine Ev_aload_n dX10_init_770 rfl ?_
  refine Ev_getF 13 21 7 flX10_34 rfl dX10_init_771 ?_
  refine Ev_bipush 18 dX10_init_774 (by decide) ?_
  refine Ev_bipush 100 dX10_init_776 (by decide) ?_
  refine Ev_bipush 97 dX10_init_778 (by decide) ?_
  refine Ev_bipush 121 dX10_init_780 (by decide) ?_
  refine Ev_iconst 0 dX10_init_782 (by decide) ?_
  refine Ev_iconst 0 dX10_init_783 (by decide) ?_
  refine Ev_iconst 0 dX10_init_784 (by decide) ?_
  refine Ev_iconst 0 dX10_init_785 (by decide) ?_
  obtain ⟨y77, μ75, hM76, h⟩ := h
  refine Ev_callS [_, _, _, _, _, _, _] mlX10_162 rfl rfl (Nat.le_of_ble_eq_true rfl) dX10_init_786 hM76 ?_
  refine Ev_last (n := 21) (vp_lit (by decide)) dX10_init_789 ?_
  have h := h _ rfl
  refine Ev_aload_n dX10_init_790 rfl ?_
  refine Ev_getF 13 21 7 flX10_34 rfl dX10_init_791 ?_
  refine Ev_bipush 19 dX10_init_794 (by decide) ?_
  refine Ev_bipush 119 dX10_init_796 (by decide) ?_
  refine Ev_bipush 104 dX10_init_798 (by decide) ?_
  refine Ev_bipush 105 dX10_init_800 (by decide) ?_
  refine Ev_bipush 99 dX10_init_802 (by decide) ?_
  refine Ev_bipush 104 dX10_init_804 (by decide) ?_
  refine Ev_iconst 0 dX10_init_806 (by decide) ?_
  refine Ev_iconst 0 dX10_init_807 (by decide) ?_
  obtain ⟨y81, μ79, hM80, h⟩ := h
  refine Ev_callS [_, _, _, _, _, _, _] mlX10_162 rfl rfl (Nat.le_of_ble_eq_true rfl) dX10_init_808 hM80 ?_
  refine Ev_last (n := 21) (vp_lit (by decide)) dX10_init_811 ?_
  have h := h _ rfl
  refine Ev_aload_n dX10_init_812 rfl ?_
  refine Ev_getF 13 21 7 flX10_34 rfl dX10_init_813 ?_
  refine Ev_bipush 20 dX10_init_816 (by decide) ?_
  refine Ev_bipush 119 dX10_init_818 (by decide) ?_
  refine Ev_bipush 105 dX10_init_820 (by decide) ?_
  refine Ev_bipush 100 dX10_init_822 (by decide) ?_
  refine Ev_bipush 101 dX10_init_824 (by decide) ?_
  refine Ev_iconst 0 dX10_init_826 (by decide) ?_
  refine Ev_iconst 0 dX10_init_827 (by decide) ?_
  refine Ev_iconst 0 dX10_init_828 (by decide) ?_
  obtain ⟨y85, μ83, hM84, h⟩ := h
  refine Ev_callS [_, _, _, _, _, _, _] mlX10_162 rfl rfl (Nat.le_of_ble_eq_true rfl) dX10_init_829 hM84 ?_
  refine Ev_last (n := 21) (vp_lit (by decide)) dX10_init_832 ?_
  have h := h _ rfl
  refine Ev_aload_n dX10_init_833 rfl ?_
  obtain ⟨μ87, hM88, h⟩ := h
  refine Ev_callV [] mlX10_166 rfl rfl (Nat.le_of_ble_eq_true rfl) dX10_init_834 hM88 ?_
  refine Ev_aload_n dX10_init_837 rfl ?_
  obtain ⟨μ89, hM90, h⟩ := h
  refine Ev_callV [] mlX10_169 rfl rfl (Nat.le_of_ble_eq_true rfl) dX10_init_838 hM90 ?_
  subst h
  exact R_v rfl dX10_init_841
