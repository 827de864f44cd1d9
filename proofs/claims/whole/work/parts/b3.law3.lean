/-! ===== the law: its loop and its end ===== -/
section Law
variable {p : Program} {l : Launch} {e : Env} {s : State} {m : MethodId} {below : List Frame} {meth : Method} {c : Code} {b L n : Nat} {xs : Nat → Int32} {i pc : Nat} {st : List (Int32 ⊕ Nat)} {μC μM : Mem}
theorem L_len (C0 : lw_At p s m meth c b L xs) (hd : decode code pc = .ok (.arraylength, 1)) (k : LW p l e s m below meth c b i (pc + 1) (.inl (nI L) :: st) μC μM) : LW p l e s m below meth c b i pc (.inr 0 :: st) μC μM := fun ρC ρM cT D H locs al hT hl => by
  obtain ⟨hx, hb, hr, hml, hown, hts, hX, hbl, hlocks, hgv⟩ := C0
  have hbA : ¬ Ah s b := Nat.not_le.mpr hbl
  exact va_slen hx hb hX hbl hbA hT.2.2.2 hd (k ρC ρM cT D H locs al hT hl)
theorem L_bi (C0 : lw_At p s m meth c b L xs) {n : Int} (v : Int32) (hv : (Int8.ofInt n).toInt32 = v) (hd : decode code pc = .ok (.bipush n, 2)) (k : LW p l e s m below meth c b i (pc + 2) (.inl v :: st) μC μM) : LW p l e s m below meth c b i pc st μC μM := fun ρC ρM cT D H locs al hT hl => lv_bipush C0.1 C0.2.1 hd hv (k ρC ρM cT D H locs al hT hl)
theorem L_sub (C0 : lw_At p s m meth c b L xs) {x y : Int32} (hd : decode code pc = .ok (.isub, 1)) (k : LW p l e s m below meth c b i (pc + 1) (.inl (x - y) :: st) μC μM) : LW p l e s m below meth c b i pc (.inl y :: .inl x :: st) μC μM := fun ρC ρM cT D H locs al hT hl => lv_isub C0.1 C0.2.1 hd (k ρC ρM cT D H locs al hT hl)
theorem L_and (C0 : lw_At p s m meth c b L xs) {x y : Int32} (hd : decode code pc = .ok (.iand, 1)) (k : LW p l e s m below meth c b i (pc + 1) (.inl (x &&& y) :: st) μC μM) : LW p l e s m below meth c b i pc (.inl y :: .inl x :: st) μC μM := fun ρC ρM cT D H locs al hT hl => lv_iand C0.1 C0.2.1 hd (k ρC ρM cT D H locs al hT hl)
theorem L_gt (C0 : lw_At p s m meth c b L xs) {x y : Int32} {off : Int} (tgt : Nat) (hd : decode code pc = .ok (.if_icmp .gt off, 3)) (ht : (pc : Int) + off = (tgt : Int)) (kt : y < x → LW p l e s m below meth c b i tgt st μC μM) (kf : ¬ y < x → LW p l e s m below meth c b i (pc + 3) st μC μM) : LW p l e s m below meth c b i pc (.inl y :: .inl x :: st) μC μM := fun ρC ρM cT D H locs al hT hl => lv_icmp_gt C0.1 C0.2.1 hd ht (fun q => kt q ρC ρM cT D H locs al hT hl) (fun q => kf q ρC ρM cT D H locs al hT hl)
theorem L_tab (C0 : lw_At p s m meth c b L xs) {dflt hi : Int} {offs : Array Int} {len : Nat} {x : Int32} (tgt0 : Nat) (hd : decode code pc = .ok (.tableswitch dflt 0 hi offs, len)) (ht0 : (pc : Int) + dflt = (tgt0 : Int)) (hin : ∀ k : Nat, (k : Int) ≤ hi → ∃ (off : Int) (tgt : Nat), offs[k]? = some off ∧ (pc : Int) + off = (tgt : Int) ∧ LW p l e s m below meth c b i tgt st μC μM) (hout : LW p l e s m below meth c b i tgt0 st μC μM) : LW p l e s m below meth c b i pc (.inl x :: st) μC μM := fun ρC ρM cT D H locs al hT hl => by
  have hx := C0.1
  have hb := C0.2.1
  by_cases q : x.toInt < 0 ∨ hi < x.toInt
  · exact lv_tableOut hx hb hd q ht0 (hout ρC ρM cT D H locs al hT hl)
  · have q1 : ¬ x.toInt < 0 := fun z => q (Or.inl z)
    have q2 : ¬ hi < x.toInt := fun z => q (Or.inr z)
    obtain ⟨off, tgt, h1, h2, h3⟩ := hin x.toInt.toNat (by omega)
    refine lv_tableIn hx hb hd q1 q2 (off := off) (tgt := tgt) ?_ h2 (h3 ρC ρM cT D H locs al hT hl)
    rw [Int.sub_zero]
    exact h1
/-- on to the next six numbers -/
theorem L_next (C0 : lw_At p s m meth c b L xs) (k : LW p l e s m below meth c b (i + 6) 18 [] μC μM) : LW p l e s m below meth c b i 1482 [] μC μM := fun ρC ρM cT D H locs al hT hl => by
  have hx := C0.1
  have hb := C0.2.1
  refine lv_iinc (v := nI (i + 6)) (lv' := [(3, .int (nI (i + 6))), (0, .ref b), (1, .ref (ρC 0)), (2, .ref (ρM 0))]) hx hb dL_law_1482 hl (k := 3) rfl (by rw [show (Int32.ofInt 6 : Int32) = nI 6 from rfl, nJ_add]) (by decide) rfl (fun ls hl => ?_)
  exact lv_goto (tgt := 18) hx hb dL_law_1485 (by decide) (k ρC ρM cT D H locs ls hT (lv_sub hl [1, 2, 3, 0] rfl))
theorem L_end (C0 : lw_At p s m meth c b L xs) : LW p l e s m below meth c b i 1488 [] μC μM := fun ρC ρM cT D H locs al hT hl => by
  obtain ⟨hx, hb, hr, hml, hown, hts, hX, hbl, hlocks, hgv⟩ := C0
  refine lv_iconst (v := 1) hx hb dL_law_1488 (by decide) ?_
  refine va_forget (fun q hq => hT.2.2.2.2.2 q hq) ?_
  refine W.widen (k := 600000) (n := 7302250) (by omega) (by omega) ?_
  exact lw_ret hx hb hr hlocks dL_law_1489
theorem law_tab (C0 : lw_At p s m meth c b L xs) (hL : L ≤ 3072) (hi : i + 6 ≤ L) (hn : n ≤ 512) (hS : Sim n μC μM) (nx : ∀ μC' μM', Sim (n + 1) μC' μM' → LW p l e s m below meth c b i 1482 [] μC' μM') (k : Nat) (hk : (k : Int) ≤ 35) : ∃ (off : Int) (tgt : Nat), (#[159, 222, 245, 258, 271, 314, 347, 380, 423, 486, 509, 572, 605, 628, 641, 710, 753, 776, 809, 862, 915, 958, 991, 1024, 1047, 1060, 1103, 1146, 1195, 1228, 1271, 1284, 1337, 1380, 1403, 1426] : Array Int)[k]? = some off ∧ ((33 : Nat) : Int) + off = (tgt : Int) ∧ LW p l e s m below meth c b i tgt [] μC μM := by
  rcases (show k = 0 ∨ k = 1 ∨ k = 2 ∨ k = 3 ∨ k = 4 ∨ k = 5 ∨ k = 6 ∨ k = 7 ∨ k = 8 ∨ k = 9 ∨ k = 10 ∨ k = 11 ∨ k = 12 ∨ k = 13 ∨ k = 14 ∨ k = 15 ∨ k = 16 ∨ k = 17 ∨ k = 18 ∨ k = 19 ∨ k = 20 ∨ k = 21 ∨ k = 22 ∨ k = 23 ∨ k = 24 ∨ k = 25 ∨ k = 26 ∨ k = 27 ∨ k = 28 ∨ k = 29 ∨ k = 30 ∨ k = 31 ∨ k = 32 ∨ k = 33 ∨ k = 34 ∨ k = 35 by omega) with rfl | rfl | rfl | rfl | rfl | rfl | rfl | rfl | rfl | rfl | rfl | rfl | rfl | rfl | rfl | rfl | rfl | rfl | rfl | rfl | rfl | rfl | rfl | rfl | rfl | rfl | rfl | rfl | rfl | rfl | rfl | rfl | rfl | rfl | rfl | rfl
  · exact ⟨159, 192, by decide, by decide, law_0 C0 hL hi hn hS nx⟩
  · exact ⟨222, 255, by decide, by decide, law_1 C0 hL hi hn hS nx⟩
  · exact ⟨245, 278, by decide, by decide, law_2 C0 hL hi hn hS nx⟩
  · exact ⟨258, 291, by decide, by decide, law_3 C0 hL hi hn hS nx⟩
  · exact ⟨271, 304, by decide, by decide, law_4 C0 hL hi hn hS nx⟩
  · exact ⟨314, 347, by decide, by decide, law_5 C0 hL hi hn hS nx⟩
  · exact ⟨347, 380, by decide, by decide, law_6 C0 hL hi hn hS nx⟩
  · exact ⟨380, 413, by decide, by decide, law_7 C0 hL hi hn hS nx⟩
  · exact ⟨423, 456, by decide, by decide, law_8 C0 hL hi hn hS nx⟩
  · exact ⟨486, 519, by decide, by decide, law_9 C0 hL hi hn hS nx⟩
  · exact ⟨509, 542, by decide, by decide, law_10 C0 hL hi hn hS nx⟩
  · exact ⟨572, 605, by decide, by decide, law_11 C0 hL hi hn hS nx⟩
  · exact ⟨605, 638, by decide, by decide, law_12 C0 hL hi hn hS nx⟩
  · exact ⟨628, 661, by decide, by decide, law_13 C0 hL hi hn hS nx⟩
  · exact ⟨641, 674, by decide, by decide, law_14 C0 hL hi hn hS nx⟩
  · exact ⟨710, 743, by decide, by decide, law_15 C0 hL hi hn hS nx⟩
  · exact ⟨753, 786, by decide, by decide, law_16 C0 hL hi hn hS nx⟩
  · exact ⟨776, 809, by decide, by decide, law_17 C0 hL hi hn hS nx⟩
  · exact ⟨809, 842, by decide, by decide, law_18 C0 hL hi hn hS nx⟩
  · exact ⟨862, 895, by decide, by decide, law_19 C0 hL hi hn hS nx⟩
  · exact ⟨915, 948, by decide, by decide, law_20 C0 hL hi hn hS nx⟩
  · exact ⟨958, 991, by decide, by decide, law_21 C0 hL hi hn hS nx⟩
  · exact ⟨991, 1024, by decide, by decide, law_22 C0 hL hi hn hS nx⟩
  · exact ⟨1024, 1057, by decide, by decide, law_23 C0 hL hi hn hS nx⟩
  · exact ⟨1047, 1080, by decide, by decide, law_24 C0 hL hi hn hS nx⟩
  · exact ⟨1060, 1093, by decide, by decide, law_25 C0 hL hi hn hS nx⟩
  · exact ⟨1103, 1136, by decide, by decide, law_26 C0 hL hi hn hS nx⟩
  · exact ⟨1146, 1179, by decide, by decide, law_27 C0 hL hi hn hS nx⟩
  · exact ⟨1195, 1228, by decide, by decide, law_28 C0 hL hi hn hS nx⟩
  · exact ⟨1228, 1261, by decide, by decide, law_29 C0 hL hi hn hS nx⟩
  · exact ⟨1271, 1304, by decide, by decide, law_30 C0 hL hi hn hS nx⟩
  · exact ⟨1284, 1317, by decide, by decide, law_31 C0 hL hi hn hS nx⟩
  · exact ⟨1337, 1370, by decide, by decide, law_32 C0 hL hi hn hS nx⟩
  · exact ⟨1380, 1413, by decide, by decide, law_33 C0 hL hi hn hS nx⟩
  · exact ⟨1403, 1436, by decide, by decide, law_34 C0 hL hi hn hS nx⟩
  · exact ⟨1426, 1459, by decide, by decide, law_35 C0 hL hi hn hS nx⟩
theorem end6 {L t : Nat} (hL : L ≤ 3072) (h : 6 * t ≤ L) : nI L - 6 < nI (6 * t) ↔ L < 6 * t + 6 := by
  by_cases q : 6 ≤ L
  · rw [show nI L - 6 = nI (L - 6) from nI_sub (b := 6) q]
    constructor
    · intro z
      by_cases y : L < 6 * t + 6
      · exact y
      · exact absurd z (nI_nlt (by omega) (by omega))
    · intro z
      exact nI_lt (by omega) (by omega)
  · have t0 : t = 0 := by omega
    subst t0
    refine ⟨fun _ => by omega, fun _ => ?_⟩
    rcases (show L = 0 ∨ L = 1 ∨ L = 2 ∨ L = 3 ∨ L = 4 ∨ L = 5 by omega) with z | z | z | z | z | z <;> subst z <;> decide
theorem law_loop (C0 : lw_At p s m meth c b L xs) (hL : L ≤ 3072) : ∀ (f t : Nat) (μC μM : Mem), L < 6 * (t + f) → 6 * t ≤ L → Sim t μC μM → LW p l e s m below meth c b (6 * t) 18 [] μC μM
  | 0, t, μC, μM, h1, h2, hS => absurd h1 (by omega)
  | f + 1, t, μC, μM, h1, h2, hS => by
    refine L_il (pc := 18) C0 dL_law_18 ?_
    refine L_al0 (pc := 19) C0 dL_law_19 ?_
    refine L_len (pc := 20) C0 dL_law_20 ?_
    refine L_bi (pc := 21) C0 6 (by decide) dL_law_21 ?_
    refine L_sub (pc := 23) C0 dL_law_23 ?_
    refine L_gt (pc := 24) C0 1488 dL_law_24 (by decide) (fun _ => L_end C0) (fun q => ?_)
    have hi : 6 * t + 6 ≤ L := by
      by_cases y : L < 6 * t + 6
      · exact absurd ((end6 hL h2).2 y) q
      · omega
    have nx : ∀ μC' μM', Sim (t + 1) μC' μM' → LW p l e s m below meth c b (6 * t) 1482 [] μC' μM' := fun μC' μM' hS' => L_next C0 (law_loop C0 hL f (t + 1) μC' μM' (by omega) (by omega) hS')
    refine L_al0 (pc := 27) C0 dL_law_27 ?_
    refine L_il (pc := 28) C0 dL_law_28 ?_
    refine L_ld (pc := 29) C0 (show 6 * t < L by omega) hL dL_law_29 ?_
    refine L_bi (pc := 30) C0 63 (by decide) dL_law_30 ?_
    refine L_and (pc := 32) C0 dL_law_32 ?_
    refine L_tab (pc := 33) C0 1482 dL_law_33 (by decide) (fun k hk => law_tab C0 hL hi (by omega) hS nx k hk) ?_
    obtain ⟨P, p', r, h⟩ := hS
    exact nx _ _ h.next
end Law
