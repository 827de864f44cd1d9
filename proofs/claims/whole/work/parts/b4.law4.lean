/-! ===== the law: where it begins ===== -/
theorem tw1 {w : Cond} (i : Nat) (h : tables_1_1[i]? = some w) : w ∈ lw_tbl := List.mem_append.mpr (Or.inr (by
  have := List.mem_of_getElem? h
  unfold tables_1
  simp only [List.mem_append]
  simp [this]))
theorem tw2 {w : Cond} (i : Nat) (h : tables_1_2[i]? = some w) : w ∈ lw_tbl := List.mem_append.mpr (Or.inr (by
  have := List.mem_of_getElem? h
  unfold tables_1
  simp only [List.mem_append]
  simp [this]))
theorem tw3 {w : Cond} (i : Nat) (h : tables_1_3[i]? = some w) : w ∈ lw_tbl := List.mem_append.mpr (Or.inr (by
  have := List.mem_of_getElem? h
  unfold tables_1
  simp only [List.mem_append]
  simp [this]))
theorem tw5 {w : Cond} (i : Nat) (h : tables_1_5[i]? = some w) : w ∈ lw_tbl := List.mem_append.mpr (Or.inr (by
  have := List.mem_of_getElem? h
  unfold tables_1
  simp only [List.mem_append]
  simp [this]))
section Law
variable {p : Program} {l : Launch} {e : Env} {s : State} {m : MethodId} {below : List Frame} {meth : Method} {c : Code} {b L : Nat} {xs : Nat → Int32}
theorem amC_of (C0 : lw_At p s m meth c b L xs) : AmC s := by
  have hts := C0.2.2.2.2.2.1
  exact ⟨va_AO.of (hts _ (tw2 114 rfl)), (hts _ (tw2 134 rfl)), va_Nw.of rfl (hts _ (tw1 30 rfl)), va_Nw.of rfl (hts _ (tw2 74 rfl)), va_Nw.of rfl (hts _ (tw2 129 rfl)), va_Nw.of rfl (hts _ (tw2 172 rfl)), va_Nw.of rfl (hts _ (tw2 115 rfl)), va_Nw.of rfl (hts _ (tw1 123 rfl))⟩
theorem arr_of {cA : ClassId} {kA : Class} {comp : ClassId} {ty : FieldType} (h1 : s.vm.classes[cA]? = some kA) (h2 : kA.kind = .array comp ty) : ArrOfT s cA ty := fun n z => ⟨fun k h => (by cases h), kA, h1, comp, h2⟩
theorem tyz_of (C0 : lw_At p s m meth c b L xs) : ∃ cT : Nat → ClassId, ∀ (k : Nat) (q : ClassId × FieldType), (tyz cT)[k]? = some q → ArrOfT s q.1 q.2 ∧ va_RA s q.1 q.2 := by
  have hts := C0.2.2.2.2.2.1
  obtain ⟨a1, k1, p1, f1, g1, h1⟩ := Cond.arrayClass_spec (hts _ (tw1 114 rfl))
  obtain ⟨a2, k2, p2, f2, g2, h2⟩ := Cond.arrayClass_spec (hts _ (tw1 112 rfl))
  obtain ⟨a3, k3, p3, f3, g3, h3⟩ := Cond.arrayClass_spec (hts _ (tw1 113 rfl))
  obtain ⟨a4, k4, p4, f4, g4, h4⟩ := Cond.arrayClass_spec (hts _ (tw2 169 rfl))
  obtain ⟨p5, a5, k5, e5, _, g5, h5, f5⟩ := Cond.arrayOver_spec (hts _ (tw2 114 rfl))
  obtain ⟨p6, a6, k6, e6, g6, h6, f6⟩ := Cond.arrayOver_specA (hts _ (tw2 134 rfl))
  refine ⟨fun t => if t = 11 then a1 else if t = 12 then a2 else if t = 13 then a3 else if t = 14 then a4 else if t = 15 then a5 else a6, ?_⟩
  intro k q hq
  match k, hq with
  | 0, hq => cases hq; exact ⟨arr_of g1 h1, f1⟩
  | 1, hq => cases hq; exact ⟨arr_of g2 h2, f2⟩
  | 2, hq => cases hq; exact ⟨arr_of g3 h3, f3⟩
  | 3, hq => cases hq; exact ⟨arr_of g4 h4, f4⟩
  | 4, hq => cases hq; exact ⟨arr_of g5 h5, k5, p5, g5, h5, e5, f5⟩
  | 5, hq => cases hq; exact ⟨arr_of g6 h6, f6⟩
  | 6, hq => cases hq; exact ⟨arr_of g6 h6, f6⟩
  | k + 7, hq => cases hq
theorem K_of (C0 : lw_At p s m meth c b L xs) : ∃ (cT : Nat → ClassId) (D : va_G), va_K D CL (tyz cT) s := by
  obtain ⟨cT, hT⟩ := tyz_of C0
  have hts := C0.2.2.2.2.2.1
  obtain ⟨c0, i0, k0⟩ := u_known (C := RX0) (T := TX0) (N := 7) (n := 7) hts (fun w hw => (List.mem_filter.mp (iX0 w hw)).1) (hts _ (tw2 171 rfl))
  obtain ⟨c1, i1, k1⟩ := u_known (C := RX1) (T := TX1) (N := 4) (n := 4) hts (fun w hw => (List.mem_filter.mp (iX1 w hw)).1) (hts _ (tw1 122 rfl))
  obtain ⟨c2, i2, k2⟩ := u_known (C := RX2) (T := TX2) (N := 3) (n := 3) hts (fun w hw => (List.mem_filter.mp (iX2 w hw)).1) (hts _ (tw2 108 rfl))
  obtain ⟨c3, i3, k3⟩ := u_known (C := RX3) (T := TX3) (N := 16) (n := 16) hts (fun w hw => (List.mem_filter.mp (iX3 w hw)).1) (hts _ (tw1 116 rfl))
  obtain ⟨c4, i4, k4⟩ := u_known (C := RX4) (T := TX4) (N := 10) (n := 10) hts (fun w hw => (List.mem_filter.mp (iX4 w hw)).1) (hts _ (tw1 29 rfl))
  obtain ⟨c5, i5, k5⟩ := u_known (C := RX5) (T := TX5) (N := 6) (n := 6) hts (fun w hw => (List.mem_filter.mp (iX5 w hw)).1) (hts _ (tw2 73 rfl))
  obtain ⟨c6, i6, k6⟩ := u_known (C := RX6) (T := TX6) (N := 5) (n := 5) hts (fun w hw => (List.mem_filter.mp (iX6 w hw)).1) (hts _ (tw1 35 rfl))
  obtain ⟨c7, i7, k7⟩ := u_known (C := RX7) (T := TX7) (N := 6) (n := 6) hts (fun w hw => (List.mem_filter.mp (iX7 w hw)).1) (hts _ (tw2 46 rfl))
  obtain ⟨c8, i8, k8⟩ := u_known (C := RX8) (T := TX8) (N := 10) (n := 10) hts (fun w hw => (List.mem_filter.mp (iX8 w hw)).1) (hts _ (tw2 128 rfl))
  obtain ⟨c9, i9, k9⟩ := u_known (C := RX9) (T := TX9) (N := 14) (n := 14) hts (fun w hw => (List.mem_filter.mp (iX9 w hw)).1) (hts _ (tw1 21 rfl))
  obtain ⟨c10, i10, k10⟩ := u_known (C := RX10) (T := TX10) (N := 72) (n := 72) hts (fun w hw => (List.mem_filter.mp (iX10 w hw)).1) (hts _ (tw5 185 rfl))
  refine ⟨cT, (fun k => if k = 0 then c0 else if k = 1 then c1 else if k = 2 then c2 else if k = 3 then c3 else if k = 4 then c4 else if k = 5 then c5 else if k = 6 then c6 else if k = 7 then c7 else if k = 8 then c8 else if k = 9 then c9 else c10, fun k => if k = 0 then i0 else if k = 1 then i1 else if k = 2 then i2 else if k = 3 then i3 else if k = 4 then i4 else if k = 5 then i5 else if k = 6 then i6 else if k = 7 then i7 else if k = 8 then i8 else if k = 9 then i9 else i10), ⟨?_, hT⟩⟩
  intro k q hq
  match k, hq with
    | 0, hq => cases hq; exact k0
    | 1, hq => cases hq; exact k1
    | 2, hq => cases hq; exact k2
    | 3, hq => cases hq; exact k3
    | 4, hq => cases hq; exact k4
    | 5, hq => cases hq; exact k5
    | 6, hq => cases hq; exact k6
    | 7, hq => cases hq; exact k7
    | 8, hq => cases hq; exact k8
    | 9, hq => cases hq; exact k9
    | 10, hq => cases hq; exact k10
    | k + 11, hq => cases hq
def tmS (i : Nat) : Term := if i = 0 then .string RX6 27 else .string RX6 77
theorem el0 : ∀ j, j < 115 → Cond.eq (.elem (.field (.string RX6 27) "java/lang/String" "value" "[B") (.int (Int32.ofNat j))) (.int (bytW.getD j 0)) ∈ flatC (Jvm.Cond.and given_1 narrow_1) := by decide +kernel
theorem el1 : ∀ j, j < 9 → Cond.eq (.elem (.field (.string RX6 77) "java/lang/String" "value" "[B") (.int (Int32.ofNat j))) (.int (bytS.getD j 0)) ∈ flatC (Jvm.Cond.and given_1 narrow_1) := by decide +kernel
theorem amb_of (C0 : lw_At p s m meth c b L xs) : ∃ ρ : Nat → Nat, Amb (Ah s) ρ s s.heap := by
  obtain ⟨hx, hb, hr, hml, hown, hts, hX, hbl, hlocks, hgv⟩ := C0
  have hs := flat_of_before _ hgv
  have hA : ∀ a : Nat, a < s.heap.size → ¬ Ah s a := fun a h => Nat.not_le.mpr h
  obtain ⟨adK, adV, hS, hev⟩ := vk_Sof (N := 2) (tm := tmS) (len := [115, 9]) (byt := [bytW, bytS]) (A := Ah s) (args := #[Value.ref b]) (s := s) (fun i hi => by rcases (show i = 0 ∨ i = 1 by omega) with rfl | rfl <;> decide)
    (fun i hi => by rcases (show i = 0 ∨ i = 1 by omega) with rfl | rfl <;> exact hs _ (by decide +kernel))
    (fun i hi => by rcases (show i = 0 ∨ i = 1 by omega) with rfl | rfl <;> exact hs _ (by decide +kernel))
    (fun i hi => by rcases (show i = 0 ∨ i = 1 by omega) with rfl | rfl <;> exact hs _ (by decide +kernel))
    (fun i hi => by rcases (show i = 0 ∨ i = 1 by omega) with rfl | rfl <;> exact hs _ (by decide +kernel))
    (fun i hi j hj => by
      rcases (show i = 0 ∨ i = 1 by omega) with rfl | rfl
      · exact hs _ (el0 j hj)
      · exact hs _ (el1 j hj))
    (fun i j hi hj hne => by
      rcases (show i = 0 ∨ i = 1 by omega) with rfl | rfl <;> rcases (show j = 0 ∨ j = 1 by omega) with rfl | rfl
      · exact absurd rfl hne
      · exact Or.inl (hs _ (by decide +kernel))
      · exact Or.inr (hs _ (by decide +kernel))
      · exact absurd rfl hne) hA
  refine ⟨fun a => if a = 1000000 then adK 0 else if a = 1000001 then adV 0 else if a = 1000002 then adK 1 else if a = 1000003 then adV 1 else 0, ?_, vk_R.of (hts _ (tw1 40 rfl)) (hev 0 (by decide)), vk_R.of (hts _ (tw3 74 rfl)) (hev 1 (by decide)), va_Zof (hts _ (tw1 50 rfl)) (hts _ (tw1 4 rfl)) ?_ hA, va_Nw.of rfl (hts _ (tw5 20 rfl)), va_Zqof (hts _ (tw1 66 rfl)) (hts _ (tw1 6 rfl)) (hs _ (by decide +kernel)) hA⟩
  · refine ⟨fun i hi => ?_, fun i j hi hj h => ?_⟩
    · rcases (show i = 0 ∨ i = 1 by omega) with rfl | rfl
      · exact hS.1 0 (by decide)
      · exact hS.1 1 (by decide)
    · rcases (show i = 0 ∨ i = 1 by omega) with rfl | rfl <;> rcases (show j = 0 ∨ j = 1 by omega) with rfl | rfl
      · rfl
      · exact hS.2 0 1 (by decide) (by decide) h
      · exact hS.2 1 0 (by decide) (by decide) h
      · rfl
  · have h1 : (Cond.eq (.static "java/lang/String" "COMPACT_STRINGS" "Z") (.int 1)).before #[Value.ref b] s = true := hs _ (by decide +kernel)
    exact va_eqi h1
end Law
