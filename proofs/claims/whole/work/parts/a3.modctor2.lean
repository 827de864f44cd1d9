/-! ===== RainLoomModel(): what it leaves ===== -/
def μM0 : Mem := sI μZ 0 17 (-1)
theorem M_cells {ce : Nat → CE} (h : MkM 47 (fsM (-1) 46) ce) : ∀ (ρ : Nat → Nat) (cT : Nat → ClassId) (a : Nat), a < 47 → cellE ρ cT μM0 a (shM a) = ceE ρ cT (ce a) := by
  intro ρ cT a ha
  by_cases e : a = 0
  · subst e
    rw [h.1]
    show Sum.inr (10, fvals ρ μM0 10 0) = Sum.inr (10, (fsM (-1) 46).map (cval ρ))
    unfold fsM fvals
    rw [List.map_map, show nf 10 = 72 by decide +kernel]
    congr 2
  · obtain ⟨t1, t2⟩ := shM_A a (by omega) ha
    rw [h.2 a (by omega) ha]
    unfold zc cellE arrC
    rw [if_neg (by omega)]
    have i0 : μM0.1 a = fun _ => 0 := by unfold μM0; rw [sI_n e]; rfl
    by_cases z : (shM a).1 = 13
    · rw [if_pos z, if_pos z]; rfl
    · rw [if_neg z, if_neg z, if_pos t2, i0]; rfl
theorem wM_0 {d : Nat} {μ : Mem} : X10_word (d + 1) 114 111 119 0 0 0 0 μ (Int64.ofNat (nm 27 (wdL.getD 0 []))) μ := X10_word_ok ⟨(18 : Int64), μ, X10_appends_ok (tne (show (114 : Int32) ≠ 0 by decide) ⟨by decide, rfl⟩), (501 : Int64), μ, X10_appends_ok (tne (show (111 : Int32) ≠ 0 by decide) ⟨by decide, rfl⟩), (13550 : Int64), μ, X10_appends_ok (tne (show (119 : Int32) ≠ 0 by decide) ⟨by decide, rfl⟩), (13550 : Int64), μ, X10_appends_ok (teq (show (0 : Int32) = 0 from rfl) ⟨rfl, rfl⟩), (13550 : Int64), μ, X10_appends_ok (teq (show (0 : Int32) = 0 from rfl) ⟨rfl, rfl⟩), (13550 : Int64), μ, X10_appends_ok (teq (show (0 : Int32) = 0 from rfl) ⟨rfl, rfl⟩), (13550 : Int64), μ, X10_appends_ok (teq (show (0 : Int32) = 0 from rfl) ⟨rfl, rfl⟩), by decide, rfl⟩
theorem wM_1 {d : Nat} {μ : Mem} : X10_word (d + 1) 102 105 101 108 100 0 0 μ (Int64.ofNat (nm 27 (wdL.getD 1 []))) μ := X10_word_ok ⟨(6 : Int64), μ, X10_appends_ok (tne (show (102 : Int32) ≠ 0 by decide) ⟨by decide, rfl⟩), (171 : Int64), μ, X10_appends_ok (tne (show (105 : Int32) ≠ 0 by decide) ⟨by decide, rfl⟩), (4622 : Int64), μ, X10_appends_ok (tne (show (101 : Int32) ≠ 0 by decide) ⟨by decide, rfl⟩), (124806 : Int64), μ, X10_appends_ok (tne (show (108 : Int32) ≠ 0 by decide) ⟨by decide, rfl⟩), (3369766 : Int64), μ, X10_appends_ok (tne (show (100 : Int32) ≠ 0 by decide) ⟨by decide, rfl⟩), (3369766 : Int64), μ, X10_appends_ok (teq (show (0 : Int32) = 0 from rfl) ⟨rfl, rfl⟩), (3369766 : Int64), μ, X10_appends_ok (teq (show (0 : Int32) = 0 from rfl) ⟨rfl, rfl⟩), by decide, rfl⟩
theorem wM_2 {d : Nat} {μ : Mem} : X10_word (d + 1) 108 111 111 109 0 0 0 μ (Int64.ofNat (nm 27 (wdL.getD 2 []))) μ := X10_word_ok ⟨(12 : Int64), μ, X10_appends_ok (tne (show (108 : Int32) ≠ 0 by decide) ⟨by decide, rfl⟩), (339 : Int64), μ, X10_appends_ok (tne (show (111 : Int32) ≠ 0 by decide) ⟨by decide, rfl⟩), (9168 : Int64), μ, X10_appends_ok (tne (show (111 : Int32) ≠ 0 by decide) ⟨by decide, rfl⟩), (247549 : Int64), μ, X10_appends_ok (tne (show (109 : Int32) ≠ 0 by decide) ⟨by decide, rfl⟩), (247549 : Int64), μ, X10_appends_ok (teq (show (0 : Int32) = 0 from rfl) ⟨rfl, rfl⟩), (247549 : Int64), μ, X10_appends_ok (teq (show (0 : Int32) = 0 from rfl) ⟨rfl, rfl⟩), (247549 : Int64), μ, X10_appends_ok (teq (show (0 : Int32) = 0 from rfl) ⟨rfl, rfl⟩), by decide, rfl⟩
theorem wM_3 {d : Nat} {μ : Mem} : X10_word (d + 1) 119 101 97 118 101 115 0 μ (Int64.ofNat (nm 27 (wdL.getD 3 []))) μ := X10_word_ok ⟨(23 : Int64), μ, X10_appends_ok (tne (show (119 : Int32) ≠ 0 by decide) ⟨by decide, rfl⟩), (626 : Int64), μ, X10_appends_ok (tne (show (101 : Int32) ≠ 0 by decide) ⟨by decide, rfl⟩), (16903 : Int64), μ, X10_appends_ok (tne (show (97 : Int32) ≠ 0 by decide) ⟨by decide, rfl⟩), (456403 : Int64), μ, X10_appends_ok (tne (show (118 : Int32) ≠ 0 by decide) ⟨by decide, rfl⟩), (12322886 : Int64), μ, X10_appends_ok (tne (show (101 : Int32) ≠ 0 by decide) ⟨by decide, rfl⟩), (332717941 : Int64), μ, X10_appends_ok (tne (show (115 : Int32) ≠ 0 by decide) ⟨by decide, rfl⟩), (332717941 : Int64), μ, X10_appends_ok (teq (show (0 : Int32) = 0 from rfl) ⟨rfl, rfl⟩), by decide, rfl⟩
theorem wM_4 {d : Nat} {μ : Mem} : X10_word (d + 1) 100 114 105 101 115 0 0 μ (Int64.ofNat (nm 27 (wdL.getD 4 []))) μ := X10_word_ok ⟨(4 : Int64), μ, X10_appends_ok (tne (show (100 : Int32) ≠ 0 by decide) ⟨by decide, rfl⟩), (126 : Int64), μ, X10_appends_ok (tne (show (114 : Int32) ≠ 0 by decide) ⟨by decide, rfl⟩), (3411 : Int64), μ, X10_appends_ok (tne (show (105 : Int32) ≠ 0 by decide) ⟨by decide, rfl⟩), (92102 : Int64), μ, X10_appends_ok (tne (show (101 : Int32) ≠ 0 by decide) ⟨by decide, rfl⟩), (2486773 : Int64), μ, X10_appends_ok (tne (show (115 : Int32) ≠ 0 by decide) ⟨by decide, rfl⟩), (2486773 : Int64), μ, X10_appends_ok (teq (show (0 : Int32) = 0 from rfl) ⟨rfl, rfl⟩), (2486773 : Int64), μ, X10_appends_ok (teq (show (0 : Int32) = 0 from rfl) ⟨rfl, rfl⟩), by decide, rfl⟩
theorem wM_5 {d : Nat} {μ : Mem} : X10_word (d + 1) 103 97 116 104 101 114 115 μ (Int64.ofNat (nm 27 (wdL.getD 5 []))) μ := X10_word_ok ⟨(7 : Int64), μ, X10_appends_ok (tne (show (103 : Int32) ≠ 0 by decide) ⟨by decide, rfl⟩), (190 : Int64), μ, X10_appends_ok (tne (show (97 : Int32) ≠ 0 by decide) ⟨by decide, rfl⟩), (5150 : Int64), μ, X10_appends_ok (tne (show (116 : Int32) ≠ 0 by decide) ⟨by decide, rfl⟩), (139058 : Int64), μ, X10_appends_ok (tne (show (104 : Int32) ≠ 0 by decide) ⟨by decide, rfl⟩), (3754571 : Int64), μ, X10_appends_ok (tne (show (101 : Int32) ≠ 0 by decide) ⟨by decide, rfl⟩), (101373435 : Int64), μ, X10_appends_ok (tne (show (114 : Int32) ≠ 0 by decide) ⟨by decide, rfl⟩), (2737082764 : Int64), μ, X10_appends_ok (tne (show (115 : Int32) ≠ 0 by decide) ⟨by decide, rfl⟩), by decide, rfl⟩
theorem wM_6 {d : Nat} {μ : Mem} : X10_word (d + 1) 115 116 111 114 101 0 0 μ (Int64.ofNat (nm 27 (wdL.getD 6 []))) μ := X10_word_ok ⟨(19 : Int64), μ, X10_appends_ok (tne (show (115 : Int32) ≠ 0 by decide) ⟨by decide, rfl⟩), (533 : Int64), μ, X10_appends_ok (tne (show (116 : Int32) ≠ 0 by decide) ⟨by decide, rfl⟩), (14406 : Int64), μ, X10_appends_ok (tne (show (111 : Int32) ≠ 0 by decide) ⟨by decide, rfl⟩), (388980 : Int64), μ, X10_appends_ok (tne (show (114 : Int32) ≠ 0 by decide) ⟨by decide, rfl⟩), (10502465 : Int64), μ, X10_appends_ok (tne (show (101 : Int32) ≠ 0 by decide) ⟨by decide, rfl⟩), (10502465 : Int64), μ, X10_appends_ok (teq (show (0 : Int32) = 0 from rfl) ⟨rfl, rfl⟩), (10502465 : Int64), μ, X10_appends_ok (teq (show (0 : Int32) = 0 from rfl) ⟨rfl, rfl⟩), by decide, rfl⟩
theorem wM_7 {d : Nat} {μ : Mem} : X10_word (d + 1) 103 117 115 116 115 0 0 μ (Int64.ofNat (nm 27 (wdL.getD 7 []))) μ := X10_word_ok ⟨(7 : Int64), μ, X10_appends_ok (tne (show (103 : Int32) ≠ 0 by decide) ⟨by decide, rfl⟩), (210 : Int64), μ, X10_appends_ok (tne (show (117 : Int32) ≠ 0 by decide) ⟨by decide, rfl⟩), (5689 : Int64), μ, X10_appends_ok (tne (show (115 : Int32) ≠ 0 by decide) ⟨by decide, rfl⟩), (153623 : Int64), μ, X10_appends_ok (tne (show (116 : Int32) ≠ 0 by decide) ⟨by decide, rfl⟩), (4147840 : Int64), μ, X10_appends_ok (tne (show (115 : Int32) ≠ 0 by decide) ⟨by decide, rfl⟩), (4147840 : Int64), μ, X10_appends_ok (teq (show (0 : Int32) = 0 from rfl) ⟨rfl, rfl⟩), (4147840 : Int64), μ, X10_appends_ok (teq (show (0 : Int32) = 0 from rfl) ⟨rfl, rfl⟩), by decide, rfl⟩
theorem wM_8 {d : Nat} {μ : Mem} : X10_word (d + 1) 115 101 101 100 0 0 0 μ (Int64.ofNat (nm 27 (wdL.getD 8 []))) μ := X10_word_ok ⟨(19 : Int64), μ, X10_appends_ok (tne (show (115 : Int32) ≠ 0 by decide) ⟨by decide, rfl⟩), (518 : Int64), μ, X10_appends_ok (tne (show (101 : Int32) ≠ 0 by decide) ⟨by decide, rfl⟩), (13991 : Int64), μ, X10_appends_ok (tne (show (101 : Int32) ≠ 0 by decide) ⟨by decide, rfl⟩), (377761 : Int64), μ, X10_appends_ok (tne (show (100 : Int32) ≠ 0 by decide) ⟨by decide, rfl⟩), (377761 : Int64), μ, X10_appends_ok (teq (show (0 : Int32) = 0 from rfl) ⟨rfl, rfl⟩), (377761 : Int64), μ, X10_appends_ok (teq (show (0 : Int32) = 0 from rfl) ⟨rfl, rfl⟩), (377761 : Int64), μ, X10_appends_ok (teq (show (0 : Int32) = 0 from rfl) ⟨rfl, rfl⟩), by decide, rfl⟩
theorem wM_9 {d : Nat} {μ : Mem} : X10_word (d + 1) 105 102 0 0 0 0 0 μ (Int64.ofNat (nm 27 (wdL.getD 9 []))) μ := X10_word_ok ⟨(9 : Int64), μ, X10_appends_ok (tne (show (105 : Int32) ≠ 0 by decide) ⟨by decide, rfl⟩), (249 : Int64), μ, X10_appends_ok (tne (show (102 : Int32) ≠ 0 by decide) ⟨by decide, rfl⟩), (249 : Int64), μ, X10_appends_ok (teq (show (0 : Int32) = 0 from rfl) ⟨rfl, rfl⟩), (249 : Int64), μ, X10_appends_ok (teq (show (0 : Int32) = 0 from rfl) ⟨rfl, rfl⟩), (249 : Int64), μ, X10_appends_ok (teq (show (0 : Int32) = 0 from rfl) ⟨rfl, rfl⟩), (249 : Int64), μ, X10_appends_ok (teq (show (0 : Int32) = 0 from rfl) ⟨rfl, rfl⟩), (249 : Int64), μ, X10_appends_ok (teq (show (0 : Int32) = 0 from rfl) ⟨rfl, rfl⟩), by decide, rfl⟩
theorem wM_10 {d : Nat} {μ : Mem} : X10_word (d + 1) 116 104 101 110 0 0 0 μ (Int64.ofNat (nm 27 (wdL.getD 10 []))) μ := X10_word_ok ⟨(20 : Int64), μ, X10_appends_ok (tne (show (116 : Int32) ≠ 0 by decide) ⟨by decide, rfl⟩), (548 : Int64), μ, X10_appends_ok (tne (show (104 : Int32) ≠ 0 by decide) ⟨by decide, rfl⟩), (14801 : Int64), μ, X10_appends_ok (tne (show (101 : Int32) ≠ 0 by decide) ⟨by decide, rfl⟩), (399641 : Int64), μ, X10_appends_ok (tne (show (110 : Int32) ≠ 0 by decide) ⟨by decide, rfl⟩), (399641 : Int64), μ, X10_appends_ok (teq (show (0 : Int32) = 0 from rfl) ⟨rfl, rfl⟩), (399641 : Int64), μ, X10_appends_ok (teq (show (0 : Int32) = 0 from rfl) ⟨rfl, rfl⟩), (399641 : Int64), μ, X10_appends_ok (teq (show (0 : Int32) = 0 from rfl) ⟨rfl, rfl⟩), by decide, rfl⟩
theorem wM_11 {d : Nat} {μ : Mem} : X10_word (d + 1) 101 108 115 101 0 0 0 μ (Int64.ofNat (nm 27 (wdL.getD 11 []))) μ := X10_word_ok ⟨(5 : Int64), μ, X10_appends_ok (tne (show (101 : Int32) ≠ 0 by decide) ⟨by decide, rfl⟩), (147 : Int64), μ, X10_appends_ok (tne (show (108 : Int32) ≠ 0 by decide) ⟨by decide, rfl⟩), (3988 : Int64), μ, X10_appends_ok (tne (show (115 : Int32) ≠ 0 by decide) ⟨by decide, rfl⟩), (107681 : Int64), μ, X10_appends_ok (tne (show (101 : Int32) ≠ 0 by decide) ⟨by decide, rfl⟩), (107681 : Int64), μ, X10_appends_ok (teq (show (0 : Int32) = 0 from rfl) ⟨rfl, rfl⟩), (107681 : Int64), μ, X10_appends_ok (teq (show (0 : Int32) = 0 from rfl) ⟨rfl, rfl⟩), (107681 : Int64), μ, X10_appends_ok (teq (show (0 : Int32) = 0 from rfl) ⟨rfl, rfl⟩), by decide, rfl⟩
theorem wM_12 {d : Nat} {μ : Mem} : X10_word (d + 1) 115 104 101 100 0 0 0 μ (Int64.ofNat (nm 27 (wdL.getD 12 []))) μ := X10_word_ok ⟨(19 : Int64), μ, X10_appends_ok (tne (show (115 : Int32) ≠ 0 by decide) ⟨by decide, rfl⟩), (521 : Int64), μ, X10_appends_ok (tne (show (104 : Int32) ≠ 0 by decide) ⟨by decide, rfl⟩), (14072 : Int64), μ, X10_appends_ok (tne (show (101 : Int32) ≠ 0 by decide) ⟨by decide, rfl⟩), (379948 : Int64), μ, X10_appends_ok (tne (show (100 : Int32) ≠ 0 by decide) ⟨by decide, rfl⟩), (379948 : Int64), μ, X10_appends_ok (teq (show (0 : Int32) = 0 from rfl) ⟨rfl, rfl⟩), (379948 : Int64), μ, X10_appends_ok (teq (show (0 : Int32) = 0 from rfl) ⟨rfl, rfl⟩), (379948 : Int64), μ, X10_appends_ok (teq (show (0 : Int32) = 0 from rfl) ⟨rfl, rfl⟩), by decide, rfl⟩
theorem wM_13 {d : Nat} {μ : Mem} : X10_word (d + 1) 119 97 114 112 0 0 0 μ (Int64.ofNat (nm 27 (wdL.getD 13 []))) μ := X10_word_ok ⟨(23 : Int64), μ, X10_appends_ok (tne (show (119 : Int32) ≠ 0 by decide) ⟨by decide, rfl⟩), (622 : Int64), μ, X10_appends_ok (tne (show (97 : Int32) ≠ 0 by decide) ⟨by decide, rfl⟩), (16812 : Int64), μ, X10_appends_ok (tne (show (114 : Int32) ≠ 0 by decide) ⟨by decide, rfl⟩), (453940 : Int64), μ, X10_appends_ok (tne (show (112 : Int32) ≠ 0 by decide) ⟨by decide, rfl⟩), (453940 : Int64), μ, X10_appends_ok (teq (show (0 : Int32) = 0 from rfl) ⟨rfl, rfl⟩), (453940 : Int64), μ, X10_appends_ok (teq (show (0 : Int32) = 0 from rfl) ⟨rfl, rfl⟩), (453940 : Int64), μ, X10_appends_ok (teq (show (0 : Int32) = 0 from rfl) ⟨rfl, rfl⟩), by decide, rfl⟩
theorem wM_14 {d : Nat} {μ : Mem} : X10_word (d + 1) 112 105 99 107 0 0 0 μ (Int64.ofNat (nm 27 (wdL.getD 14 []))) μ := X10_word_ok ⟨(16 : Int64), μ, X10_appends_ok (tne (show (112 : Int32) ≠ 0 by decide) ⟨by decide, rfl⟩), (441 : Int64), μ, X10_appends_ok (tne (show (105 : Int32) ≠ 0 by decide) ⟨by decide, rfl⟩), (11910 : Int64), μ, X10_appends_ok (tne (show (99 : Int32) ≠ 0 by decide) ⟨by decide, rfl⟩), (321581 : Int64), μ, X10_appends_ok (tne (show (107 : Int32) ≠ 0 by decide) ⟨by decide, rfl⟩), (321581 : Int64), μ, X10_appends_ok (teq (show (0 : Int32) = 0 from rfl) ⟨rfl, rfl⟩), (321581 : Int64), μ, X10_appends_ok (teq (show (0 : Int32) = 0 from rfl) ⟨rfl, rfl⟩), (321581 : Int64), μ, X10_appends_ok (teq (show (0 : Int32) = 0 from rfl) ⟨rfl, rfl⟩), by decide, rfl⟩
theorem wM_15 {d : Nat} {μ : Mem} : X10_word (d + 1) 119 97 116 101 114 0 0 μ (Int64.ofNat (nm 27 (wdL.getD 15 []))) μ := X10_word_ok ⟨(23 : Int64), μ, X10_appends_ok (tne (show (119 : Int32) ≠ 0 by decide) ⟨by decide, rfl⟩), (622 : Int64), μ, X10_appends_ok (tne (show (97 : Int32) ≠ 0 by decide) ⟨by decide, rfl⟩), (16814 : Int64), μ, X10_appends_ok (tne (show (116 : Int32) ≠ 0 by decide) ⟨by decide, rfl⟩), (453983 : Int64), μ, X10_appends_ok (tne (show (101 : Int32) ≠ 0 by decide) ⟨by decide, rfl⟩), (12257559 : Int64), μ, X10_appends_ok (tne (show (114 : Int32) ≠ 0 by decide) ⟨by decide, rfl⟩), (12257559 : Int64), μ, X10_appends_ok (teq (show (0 : Int32) = 0 from rfl) ⟨rfl, rfl⟩), (12257559 : Int64), μ, X10_appends_ok (teq (show (0 : Int32) = 0 from rfl) ⟨rfl, rfl⟩), by decide, rfl⟩
theorem wM_16 {d : Nat} {μ : Mem} : X10_word (d + 1) 110 101 101 100 115 0 0 μ (Int64.ofNat (nm 27 (wdL.getD 16 []))) μ := X10_word_ok ⟨(14 : Int64), μ, X10_appends_ok (tne (show (110 : Int32) ≠ 0 by decide) ⟨by decide, rfl⟩), (383 : Int64), μ, X10_appends_ok (tne (show (101 : Int32) ≠ 0 by decide) ⟨by decide, rfl⟩), (10346 : Int64), μ, X10_appends_ok (tne (show (101 : Int32) ≠ 0 by decide) ⟨by decide, rfl⟩), (279346 : Int64), μ, X10_appends_ok (tne (show (100 : Int32) ≠ 0 by decide) ⟨by decide, rfl⟩), (7542361 : Int64), μ, X10_appends_ok (tne (show (115 : Int32) ≠ 0 by decide) ⟨by decide, rfl⟩), (7542361 : Int64), μ, X10_appends_ok (teq (show (0 : Int32) = 0 from rfl) ⟨rfl, rfl⟩), (7542361 : Int64), μ, X10_appends_ok (teq (show (0 : Int32) = 0 from rfl) ⟨rfl, rfl⟩), by decide, rfl⟩
theorem wM_17 {d : Nat} {μ : Mem} : X10_word (d + 1) 100 114 111 119 110 115 0 μ (Int64.ofNat (nm 27 (wdL.getD 17 []))) μ := X10_word_ok ⟨(4 : Int64), μ, X10_appends_ok (tne (show (100 : Int32) ≠ 0 by decide) ⟨by decide, rfl⟩), (126 : Int64), μ, X10_appends_ok (tne (show (114 : Int32) ≠ 0 by decide) ⟨by decide, rfl⟩), (3417 : Int64), μ, X10_appends_ok (tne (show (111 : Int32) ≠ 0 by decide) ⟨by decide, rfl⟩), (92282 : Int64), μ, X10_appends_ok (tne (show (119 : Int32) ≠ 0 by decide) ⟨by decide, rfl⟩), (2491628 : Int64), μ, X10_appends_ok (tne (show (110 : Int32) ≠ 0 by decide) ⟨by decide, rfl⟩), (67273975 : Int64), μ, X10_appends_ok (tne (show (115 : Int32) ≠ 0 by decide) ⟨by decide, rfl⟩), (67273975 : Int64), μ, X10_appends_ok (teq (show (0 : Int32) = 0 from rfl) ⟨rfl, rfl⟩), by decide, rfl⟩
theorem wM_18 {d : Nat} {μ : Mem} : X10_word (d + 1) 100 97 121 0 0 0 0 μ (Int64.ofNat (nm 27 (wdL.getD 18 []))) μ := X10_word_ok ⟨(4 : Int64), μ, X10_appends_ok (tne (show (100 : Int32) ≠ 0 by decide) ⟨by decide, rfl⟩), (109 : Int64), μ, X10_appends_ok (tne (show (97 : Int32) ≠ 0 by decide) ⟨by decide, rfl⟩), (2968 : Int64), μ, X10_appends_ok (tne (show (121 : Int32) ≠ 0 by decide) ⟨by decide, rfl⟩), (2968 : Int64), μ, X10_appends_ok (teq (show (0 : Int32) = 0 from rfl) ⟨rfl, rfl⟩), (2968 : Int64), μ, X10_appends_ok (teq (show (0 : Int32) = 0 from rfl) ⟨rfl, rfl⟩), (2968 : Int64), μ, X10_appends_ok (teq (show (0 : Int32) = 0 from rfl) ⟨rfl, rfl⟩), (2968 : Int64), μ, X10_appends_ok (teq (show (0 : Int32) = 0 from rfl) ⟨rfl, rfl⟩), by decide, rfl⟩
theorem wM_19 {d : Nat} {μ : Mem} : X10_word (d + 1) 119 104 105 99 104 0 0 μ (Int64.ofNat (nm 27 (wdL.getD 19 []))) μ := X10_word_ok ⟨(23 : Int64), μ, X10_appends_ok (tne (show (119 : Int32) ≠ 0 by decide) ⟨by decide, rfl⟩), (629 : Int64), μ, X10_appends_ok (tne (show (104 : Int32) ≠ 0 by decide) ⟨by decide, rfl⟩), (16992 : Int64), μ, X10_appends_ok (tne (show (105 : Int32) ≠ 0 by decide) ⟨by decide, rfl⟩), (458787 : Int64), μ, X10_appends_ok (tne (show (99 : Int32) ≠ 0 by decide) ⟨by decide, rfl⟩), (12387257 : Int64), μ, X10_appends_ok (tne (show (104 : Int32) ≠ 0 by decide) ⟨by decide, rfl⟩), (12387257 : Int64), μ, X10_appends_ok (teq (show (0 : Int32) = 0 from rfl) ⟨rfl, rfl⟩), (12387257 : Int64), μ, X10_appends_ok (teq (show (0 : Int32) = 0 from rfl) ⟨rfl, rfl⟩), by decide, rfl⟩
theorem wM_20 {d : Nat} {μ : Mem} : X10_word (d + 1) 119 105 100 101 0 0 0 μ (Int64.ofNat (nm 27 (wdL.getD 20 []))) μ := X10_word_ok ⟨(23 : Int64), μ, X10_appends_ok (tne (show (119 : Int32) ≠ 0 by decide) ⟨by decide, rfl⟩), (630 : Int64), μ, X10_appends_ok (tne (show (105 : Int32) ≠ 0 by decide) ⟨by decide, rfl⟩), (17014 : Int64), μ, X10_appends_ok (tne (show (100 : Int32) ≠ 0 by decide) ⟨by decide, rfl⟩), (459383 : Int64), μ, X10_appends_ok (tne (show (101 : Int32) ≠ 0 by decide) ⟨by decide, rfl⟩), (459383 : Int64), μ, X10_appends_ok (teq (show (0 : Int32) = 0 from rfl) ⟨rfl, rfl⟩), (459383 : Int64), μ, X10_appends_ok (teq (show (0 : Int32) = 0 from rfl) ⟨rfl, rfl⟩), (459383 : Int64), μ, X10_appends_ok (teq (show (0 : Int32) = 0 from rfl) ⟨rfl, rfl⟩), by decide, rfl⟩
def wdJ (μ : Mem) : Nat → Mem
  | 0 => μ
  | j + 1 => sJ (wdJ μ j) 7 j (Int64.ofNat (nm 27 (wdL.getD j [])))
theorem wdJ_at {μ : Mem} {i : Nat} : ∀ j, i < j → (wdJ μ j).2.1 7 i = Int64.ofNat (nm 27 (wdL.getD i []))
  | 0, h => absurd h (Nat.not_lt_zero _)
  | j + 1, h => by
    show (sJ (wdJ μ j) 7 j _).2.1 7 i = _
    by_cases e : i = j
    · rw [e, sJ_at]
    · rw [sJ_k e]; exact wdJ_at j (by omega)
theorem wdJ_i {μ : Mem} : ∀ j, (wdJ μ j).1 = μ.1
  | 0 => rfl
  | j + 1 => wdJ_i j
theorem PW_0 : PW P0' := ⟨by decide, by decide, by decide, by decide, by decide, by decide, by decide, fun c f h => absurd ((onL_0 c).symm.trans h) (by decide), fun f hf => absurd hf (Nat.not_lt_zero _), fun f hf => absurd hf (Nat.not_lt_zero _), Iff.rfl, fun k _ => Or.inl rfl⟩
set_option maxHeartbeats 4000000 in
theorem init_m {d : Nat} : ∃ μ', X10_init_at383 (d + 1) μM0 μ' ∧ (MP P0' μ' ∧ RowM μ' 33 (row0 P0')) ∧ μ'.1 0 2 = 0 ∧ μ'.1 0 17 = -1 ∧ μ'.1 0 53 = 0 ∧ μ'.1 0 65 = 0 ∧ (∀ k, k < 3 → μ'.1 45 k = 0) ∧ ∀ i, i < 21 → μ'.2.1 7 i = Int64.ofNat (nm 27 (wdL.getD i [])) := by
  obtain ⟨m1, a1, a2, ⟨v1, v2, v3, v4, v5, v6, v7⟩, a4⟩ := plain_m (d := d + 1) (s := 0) (μ := μM0) (by decide)
  have iW : (wdJ m1 21).1 = m1.1 := wdJ_i 21
  have z0 : ∀ a k, ¬ plM 0 a k → ¬ (a = 0 ∧ k = 17) → m1.1 a k = 0 := fun a k h1 h2 => by
    rw [a2.at h1]
    unfold μM0
    by_cases e : a = 0
    · rw [e, sI_k (fun z => h2 ⟨e, z⟩)]; rfl
    · rw [sI_n e]; rfl
  have z18 : m1.1 0 18 = 0 := z0 _ _ (by unfold plM; omega) (by omega)
  obtain ⟨m2, b1, b2, b3⟩ := begins_m (d := d + 1) (P := P0') (L := 0) (μ := wdJ m1 21) (by decide) (by decide) (by rw [iW]; exact z18) (by rw [iW]; exact v4) (by rw [iW]; exact v5) (fun l hl => absurd hl (Nat.not_lt_zero _))
  obtain ⟨m3, c1, c2, c3⟩ := keepsRow_m (d := d + 1) b3
  have c2 : Kq (fun a _ => a = 33) m2 m3 := c2.q fun a k q => by simpa using q
  have e : ∀ a k, a ≠ 33 → a ≠ 34 → ¬ (a = 0 ∧ k = 52) → m3.1 a k = m1.1 a k := fun a k h1 h2 h3 => by rw [c2.at h1, b2.at (by omega), iW]
  refine ⟨m3, X10_init_at383_ok ?_, ⟨⟨PW_0, 0, by decide, ?_, ?_, ?_, ?_, ?_, ?_, ?_, ?_, fun c hc => absurd ((onL_0 c).symm.trans hc) (by decide), fun f hf => absurd hf (Nat.not_lt_zero _), fun f hf => absurd hf (Nat.not_lt_zero _), fun k hk => ?_⟩, c3⟩, ?_, ?_, ?_, ?_, fun k hk => ?_, fun i hi => ?_⟩
  · refine ⟨m1, a1, ?_⟩
    refine ⟨_, _, wM_0, ?_⟩
    rintro μ0 rfl
    refine ⟨_, _, wM_1, ?_⟩
    rintro μ1 rfl
    refine ⟨_, _, wM_2, ?_⟩
    rintro μ2 rfl
    refine ⟨_, _, wM_3, ?_⟩
    rintro μ3 rfl
    refine ⟨_, _, wM_4, ?_⟩
    rintro μ4 rfl
    refine ⟨_, _, wM_5, ?_⟩
    rintro μ5 rfl
    refine ⟨_, _, wM_6, ?_⟩
    rintro μ6 rfl
    refine ⟨_, _, wM_7, ?_⟩
    rintro μ7 rfl
    refine ⟨_, _, wM_8, ?_⟩
    rintro μ8 rfl
    refine ⟨_, _, wM_9, ?_⟩
    rintro μ9 rfl
    refine ⟨_, _, wM_10, ?_⟩
    rintro μ10 rfl
    refine ⟨_, _, wM_11, ?_⟩
    rintro μ11 rfl
    refine ⟨_, _, wM_12, ?_⟩
    rintro μ12 rfl
    refine ⟨_, _, wM_13, ?_⟩
    rintro μ13 rfl
    refine ⟨_, _, wM_14, ?_⟩
    rintro μ14 rfl
    refine ⟨_, _, wM_15, ?_⟩
    rintro μ15 rfl
    refine ⟨_, _, wM_16, ?_⟩
    rintro μ16 rfl
    refine ⟨_, _, wM_17, ?_⟩
    rintro μ17 rfl
    refine ⟨_, _, wM_18, ?_⟩
    rintro μ18 rfl
    refine ⟨_, _, wM_19, ?_⟩
    rintro μ19 rfl
    refine ⟨_, _, wM_20, ?_⟩
    rintro μ20 rfl
    exact ⟨m2, b1, m3, c1, rfl⟩
  · rw [e _ _ (by decide) (by decide) (by decide)]; exact z18
  · rw [e _ _ (by decide) (by decide) (by decide)]; exact v2
  · rw [e _ _ (by decide) (by decide) (by decide)]; exact v1
  · rw [e _ _ (by decide) (by decide) (by decide)]; exact v3
  · rw [e _ _ (by decide) (by decide) (by decide)]; exact v4
  · rw [e _ _ (by decide) (by decide) (by decide)]; exact v5
  · rw [e _ _ (by decide) (by decide) (by decide)]; exact v6
  · rw [e _ _ (by decide) (by decide) (by decide)]; exact v7
  · have m18 : m3.1 0 18 = nI 0 := by rw [e _ _ (by decide) (by decide) (by decide)]; exact z18
    have mz := mL_nI (L := 0) (by decide) m18
    refine ⟨0, ?_, ?_, (by show 0 + 0 ≤ 260; decide), trivial, Or.inl rfl, Or.inl rfl⟩
    · rw [mz, e _ _ (by decide) (by decide) (by omega)]; exact (a4 k hk).1
    · rw [mz, e _ _ (by decide) (by decide) (by omega)]; exact (a4 k hk).2
  · rw [e _ _ (by decide) (by decide) (by decide)]; exact z0 _ _ (by unfold plM; omega) (by omega)
  · rw [e _ _ (by decide) (by decide) (by decide), a2.at (by unfold plM; omega)]; rfl
  · rw [e _ _ (by decide) (by decide) (by decide)]; exact z0 _ _ (by unfold plM; omega) (by omega)
  · rw [e _ _ (by decide) (by decide) (by decide)]; exact z0 _ _ (by unfold plM; omega) (by omega)
  · rw [e _ _ (by decide) (by decide) (by omega)]; exact z0 _ _ (by unfold plM; omega) (by omega)
  · rw [c2.1, b2.1]; exact wdJ_at 21 hi
theorem X10_init_all {d : Nat} : ∃ μ', MeC (d + 2) yX10_init cX10_init 1 [vr 10 0 0] 1 c0M 46 12847 47 (ceOf shM μ') ∧ (MP P0' μ' ∧ RowM μ' 33 (row0 P0')) ∧ μ'.1 0 2 = 0 ∧ μ'.1 0 17 = -1 ∧ μ'.1 0 53 = 0 ∧ μ'.1 0 65 = 0 ∧ (∀ k, k < 3 → μ'.1 45 k = 0) ∧ ∀ i, i < 21 → μ'.2.1 7 i = Int64.ofNat (nm 27 (wdL.getD i [])) := by
  obtain ⟨μ', h, r⟩ := init_m (d := d)
  refine ⟨μ', X10_walk (fun ce hm => C_toEv shM_C (shM_D _) shM_R (M_cells hm) ?_ ?_ h), r⟩
  · intro v hv
    rcases List.mem_cons.mp hv with e | e
    · cases e; exact VOK_mk (by decide) ⟨by decide, by decide⟩
    · cases e
  · intro v hv
    cases hv
