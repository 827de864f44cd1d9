/-! ===== the law, from its entry ===== -/
theorem dynQ : ∀ a, a < 252 → (shK a).1 < 11 → ∀ k, k < nf (shK a).1 → (ft (shK a).1 k).1 = 3 → ((100 * a + k == 4) || (100 * a + k == 201) || (100 * a + k == 900)) = true := by decide +kernel
theorem dyn_of {n : Nat} {μC μM : Mem} (h : Sim n μC μM) : Dyn 252 shK μC := by
  obtain ⟨P, p, r, ⟨hC, _⟩, _, _, _, _, _, _, hD⟩ := h
  have pp := hC.pp
  have e1 := hC.2.2.1
  have e2 := hC.2.2.2.1
  have e3 := hD.1
  intro a ha ht k hk hf
  have q := dynQ a ha ht k hk hf
  have s1 : shK 214 = (3, 0) := by decide +kernel
  have s2 : shK 233 = (3, 0) := by decide +kernel
  have k72 : k < 100 := Nat.lt_of_lt_of_le hk (Nat.le_trans ((by decide +kernel : ∀ t, t < 11 → nf t ≤ 72) _ ht) (by decide))
  rw [Bool.or_eq_true, Bool.or_eq_true, beq_iff_eq, beq_iff_eq, beq_iff_eq] at q
  rcases (show (a = 0 ∧ k = 4) ∨ (a = 2 ∧ k = 1) ∨ (a = 9 ∧ k = 0) by omega) with ⟨z1, z2⟩ | ⟨z1, z2⟩ | ⟨z1, z2⟩
  · rw [z1, z2, e1]
    rcases pp with z | z
    · rw [z]; exact ⟨by decide, s1⟩
    · rw [z]; exact ⟨by decide, s2⟩
  · rw [z1, z2, e3]
    rcases pp with z | z
    · rw [z]; exact ⟨by decide, s2⟩
    · rw [z]; exact ⟨by decide, s1⟩
  · rw [z1, z2, e2]
    rcases pp with z | z
    · rw [z]; exact ⟨by decide, s1⟩
    · rw [z]; exact ⟨by decide, s2⟩
theorem fs0_N : ∀ v, some v ∈ fsM 0 0 → VC 0 v := by
  intro v hv
  unfold fsM at hv
  obtain ⟨k, hk, e⟩ := List.mem_map.mp hv
  have hk := List.mem_range.mp hk
  have q := (by decide +kernel : ∀ k, k < 72 → (ft 10 k).1 = 0 ∨ ¬ (ft 10 k).2.2.2 ≤ 0) k hk
  rcases q with q | q
  · rw [if_pos q] at e; cases e; trivial
  · by_cases z : (ft 10 k).1 = 0
    · rw [if_pos z] at e; cases e; trivial
    · rw [if_neg z, if_neg q] at e; cases e
theorem fs0_C : CC 0 (.inl (10, fsM 0 0)) := fs0_N
theorem fs0_E (ρ ρ' : Nat → Nat) {cT : Nat → ClassId} : ceE ρ cT (c0M 0) = .inr (10, (fsM 0 0).map (cval ρ')) := CN_E (ρ' := ρ') (x := .inl (10, fsM 0 0)) fs0_N
theorem fs0_d : fsM 0 0 = [some (vi 0), none, some (vi 0), none, some (vi 0), none, none, none, none, none, some (vi 0), some (vi 0), some (vi 0), some (vi 0), some (vi 0), some (vi 0), some (vi 0), some (vi 0), some (vi 0), some (vi 0), some (vi 0), none, none, none, none, none, none, none, none, none, none, none, none, none, none, none, some (vi 0), none, none, none, none, none, some (vi 0), none, none, none, some (vi 0), none, none, some (vi 0), none, none, some (vi 0), some (vi 0), none, some (vi 0), some (vi 0), none, none, none, none, some (vi 0), some (vi 0), some (vi 0), none, some (vi 0), none, none, none, none, none, none] := by decide +kernel
theorem df10 (ρ : Nat → Nat) : ∀ j, j < 72 → defaultValue (tyX10 j) = vp_V ((fsM 0 0).map (cval ρ)) j := by
  rw [fs0_d]
  exact dfX10 ρ
section CtorGo
variable {p : Program} {l : Launch} {e : Env} {R : Room} {s : State} {m : MethodId} {args : Array Value} {below : List Frame} {meth : Method} {c : Code} {H : Heap} {locs : List Loc} {cells slots : Nat} {Q : State → Prop}
theorem ctor_goL {A : Nat → Prop} {N N2 kc2 ks2 : Nat} {ρ : Nat → Nat} {cT : Nat → ClassId} {D : va_G} {ce2 : Nat → CE} {pc : Nat} {al : Array Slot} {st0 rest : List Value} {a : Array Value} (hr : va_Run p l e R s m args below meth c H locs cells slots kc2 ks2 (F0 m pc al st0) rest (QK N ρ N2 ce2 cT D (AC N ρ H.size) a) (AC N ρ H.size)) (hin : ∀ q, AC N ρ H.size q → A q) (hS : va_S A s.heap H locs)
    (kk : ∀ (H1 : Heap) (locs1 : List Loc) (ρ' : Nat → Nat), Ext N ρ ρ' → WC N2 ce2 ρ' cT D (AC N ρ H.size) s H1 → va_S A s.heap H1 locs1 → (∀ q, q < H.size → ¬ AC N ρ H.size q → H1[q]? = H[q]?) → W p l e R s m args below meth c H1 locs1 (cells + kc2) (slots + ks2) Q (F0 m (pc + 3) al rest)) : W p l e R s m args below meth c H locs cells slots Q (F0 m pc al st0) := by
  intro T hT X
  obtain ⟨v, st₀, t, T', L, h0, X', hL', e1, e2, ⟨hv, ⟨ρ', hE', hWt⟩, hz, hk⟩, hst'⟩ := hr T hT X
  have hv : v = none := by cases hv; rfl
  subst hv
  rw [h0] at hz hk
  have hvm : s.vm.Alike t.vm := by rw [← e2]; exact X'.warmed.alike
  obtain ⟨t2, a1, b1⟩ := kk T'.heap (locs ++ L) ρ' hE' ⟨by rw [e1]; exact hWt.1, va_K.moved hvm.symm hWt.2.1, hWt.2.2⟩
    ⟨Nat.le_trans hS.1 (by rw [e1]; exact hz), fun q h1 h2 => by rw [e1, hk q (Nat.lt_of_lt_of_le h1 hS.1) (fun z => h2 (hin q z))]; exact hS.2.1 q h1 h2, fun q hq => by
      rcases List.mem_append.mp hq with h | h
      · exact hS.2.2 q h
      · exact hin _ (hL' q h)⟩ (fun q h1 h2 => by rw [e1]; exact hk q h1 h2) T' rfl X'
  exact ⟨t2, hst' t2 a1, b1⟩
end CtorGo
theorem Wl.weak {N : Nat} {sh : Nat → Nat × Nat} {ρ : Nat → Nat} {cT : Nat → ClassId} {D : va_G} {A B : Nat → Prop} {μ : Mem} {s : State} {H : Heap} (h : Wl N sh ρ cT D A μ s H) (hAB : ∀ q, A q → B q) : Wl N sh ρ cT D B μ s H := ⟨h.1, h.2.1, h.2.2.1.weaken (fun _ q _ z => hAB q.1 z), h.2.2.2⟩
theorem Wl.lt {N : Nat} {sh : Nat → Nat × Nat} {ρ : Nat → Nat} {cT : Nat → ClassId} {D : va_G} {A : Nat → Prop} {μ : Mem} {s : State} {H : Heap} (h : Wl N sh ρ cT D A μ s H) {a : Nat} (ha : a < N) : ρ a < H.size := (h.1 a _ (wl_get ha)).lt
theorem wl_len {N : Nat} {sh : Nat → Nat × Nat} {ρ : Nat → Nat} {cT : Nat → ClassId} {μ : Mem} : (wl N sh ρ cT μ).length = N := by
  unfold wl
  rw [List.length_map, List.length_range]
section Law
variable {p : Program} {e : Env} {s : State} {m : MethodId} {below : List Frame} {meth : Method} {c : Code}
set_option maxHeartbeats 4000000 in
theorem whole_start (l : Launch) {b L : Nat} {xs : Nat → Int32} (hL : L ≤ 3072) (C0 : lw_At p s m meth c b L xs) : W p l e room_1 s m #[Value.ref b] below meth c s.heap [] 0 0 (lw_Z below #[Value.ref b] s) (entryFrame m ([Value.ref b] : List Value).toArray 4) := by
  obtain ⟨hx, hb, hr, hml, hown, hts, hX, hbl, hlocks, hgv⟩ := id C0
  obtain ⟨cT, D, hK⟩ := K_of C0
  obtain ⟨ρ0, hB0⟩ := amb_of C0
  have hM := amC_of C0
  obtain ⟨μC, μM, hMC, hMM, hSim⟩ := both_init (d := 34) (e := 38)
  have hA : ∀ q : Nat, s.heap.size ≤ q → Ah s q := fun _ h => h
  have hS : va_S (Ah s) s.heap s.heap [] := va_S.rf
  have hP : va_P D CL [] s.heap := fun k q h => by simp at h
  have hD : va_D (Ah s) [] := ⟨fun i j p q h => by simp at h, fun k q h => by simp at h⟩
  have hl := lv_entry ([.ref b]) (n := 4) (Nat.le_of_ble_eq_true rfl)
  rw [lg_entry_eq]
  generalize (lg_sl ([.ref b]) ++ List.replicate (4 - (lg_sl ([.ref b])).length) Slot.unset).toArray = ls at hl ⊢
  have hl : lv_has ls 4 [(0, .ref b)] := hl
  -- the class
  refine va_new (ci := 9) (fs := ([none, some (vi 0), some (vi 0), none, none, none, none, none, none, none, none, none, none, none] : List (Option V)).map (cval ρ0)) (C := RX9) (T := TX9) (N := 14) hx hb (tb_hts C0) iX9 tyX9 tyX9_ok hown (hts _ (tw1 20 rfl)) (hts _ (tw1 21 rfl)) (hts _ (tw1 1 rfl)) hK hP hD hS hA rfl (dfX9 ρ0) (by show 0 + 1 ≤ 600000; omega) (by show 0 + 14 ≤ 7302250; omega) dL_law_0 (fun q0 H1 hP1 hD1 hS1 => ?_)
  refine lv_dup hx hb dL_law_3 rfl ?_
  obtain ⟨ρ1, e1⟩ : ∃ ρ1, ρ1 = va_up ρ0 0 q0 := ⟨_, rfl⟩
  have r10 : ρ1 0 = q0 := by rw [e1, up_same]
  have x1 : Ext 0 ρ0 ρ1 := fun a ha => by rw [e1, up_ne (by omega)]
  have hB1 := hB0.ext x1
  have hW1 : WC 1 c0C ρ1 cT D (Ah s) s H1 := by
    have ew : wc 1 c0C ρ1 cT = [(q0, .inr (9, ([none, some (vi 0), some (vi 0), none, none, none, none, none, none, none, none, none, none, none] : List (Option V)).map (cval ρ0)))] := by
      show [(ρ1 0, ceE ρ1 cT (c0C 0))] = _
      rw [r10]
      rfl
    refine ⟨by rw [ew]; exact hP1, hK, by rw [ew]; exact hD1, fun a ha => dcX9.up (Nat.zero_le _)⟩
  have cs1 : ∀ q, AC 1 ρ1 H1.size q → Ah s q := fun q h => AC_sub hA hW1 hS1 h
  have hM1 := hMC l ρ1 cT D H1.size (by decide) (fun v hv => by
    rcases List.mem_cons.mp hv with z | z
    · rw [z]; exact Nat.zero_lt_one
    · cases z)
  obtain ⟨w1, w3, w5, w6, w7, w8⟩ := ilX9
  have run1 := va_runI (l := l) (e := e) (below := below) (meth := meth) (locs := []) (cells := 0 + 1) (slots := 0 + 14) (g := F0 m 4 ls [.ref q0, .ref q0]) (As := []) (rest := [.ref q0]) (R := room_1) (H := H1) (b := ρ1 0) (n := 0) ⟨hx, hb, hml, hown, tb_hts C0⟩ hM1
    (cwI 0 (tb_hts C0) (tb_in w6) rfl rfl rfl (tb_hts C0 _ w5) (tb_hts C0 _ (ts1 22 rfl rfl)) (tb_hts C0 _ w3) w1 w7 ⟨by show 40 + 1 + 1 ≤ 2048; omega, by show 8 + (2 + 11) + 40 * (40 + 1) ≤ 84000; omega⟩)
    ⟨PreK_blind, fun U hU hw => ⟨rfl, PreK_at hA hW1 hB1 hM hS1 hU hw⟩⟩ rfl rfl hl.1 (by rw [r10]; rfl) (lv_room (Nat.le_of_ble_eq_true rfl)) dL_law_4 ⟨by show 0 + 1 + 251 ≤ 600000; omega, by show 0 + 14 + 14926 ≤ 7302250; omega⟩
  refine ctor_goL run1 cs1 hS1 (fun H2 locs2 ρ2 x2 hW2 hS2 hk2 => ?_)
  have hC2 : Wl 252 shK (fun a => ρ2 (πC a)) cT D (Ah s) μC s H2 := (toWl ordC (dyn_of hSim) (ceS_cells ordC) hW2).weak cs1
  have c0 : ρ2 (πC 0) = q0 := by
    have z : πC 0 = 0 := rfl
    rw [z, x2 0 (Or.inl (by decide)), r10]
  refine lv_astore_n (lv' := [(1, .ref q0), (0, .ref b)]) hx hb dL_law_7 rfl hl (by decide) rfl (fun ls hl => ?_)
  -- the model
  refine va_new (ci := 10) (fs := (fsM 0 0).map (cval ρ0)) (C := RX10) (T := TX10) (N := 72) hx hb (tb_hts C0) iX10 tyX10 tyX10_ok hown (hts _ (tw5 184 rfl)) (hts _ (tw5 185 rfl)) (hts _ (tw1 16 rfl)) hC2.2.1 hC2.1 hC2.2.2.1 hS2 hA rfl (df10 ρ0) (by show 0 + 1 + 251 + 1 ≤ 600000; omega) (by show 0 + 14 + 14926 + 72 ≤ 7302250; omega) dL_law_8 (fun q1 H3 hP3 hD3 hS3 => ?_)
  refine lv_dup hx hb dL_law_11 rfl ?_
  have g3 : ∀ a, a < 252 → (wl 252 shK (fun a => ρ2 (πC a)) cT μC ++ [(q1, .inr (10, (fsM 0 0).map (cval ρ0)))])[a]? = some (ρ2 (πC a), cellE (fun a => ρ2 (πC a)) cT μC a (shK a)) := fun a ha => by
    rw [List.getElem?_append_left (by rw [wl_len]; exact ha), wl_get ha]
  have g4 : (wl 252 shK (fun a => ρ2 (πC a)) cT μC ++ [(q1, .inr (10, (fsM 0 0).map (cval ρ0)))])[252]? = some (q1, .inr (10, (fsM 0 0).map (cval ρ0))) := by
    rw [List.getElem?_append_right (by rw [wl_len]; exact Nat.le_refl _), wl_len]
    rfl
  have hC3 : Wl 252 shK (fun a => ρ2 (πC a)) cT D (Ah s) μC s H3 := ⟨fun k q hq => by
    have hk := wl_lt hq
    rw [wl_get hk] at hq
    cases hq
    exact hP3 k _ (g3 k hk), hC2.2⟩
  have ne3 : ∀ a, a < 252 → ρ2 (πC a) ≠ q1 := fun a ha z => by
    have := hD3.1 a 252 _ _ (g3 a ha) g4 z
    omega
  obtain ⟨ρ3, e3⟩ : ∃ ρ3, ρ3 = va_up ρ0 0 q1 := ⟨_, rfl⟩
  have r30 : ρ3 0 = q1 := by rw [e3, up_same]
  have x3 : Ext 0 ρ0 ρ3 := fun a ha => by rw [e3, up_ne (by omega)]
  have hB3 := hB0.ext x3
  have hW3 : WC 1 c0M ρ3 cT D (Ah s) s H3 := by
    have ew : wc 1 c0M ρ3 cT = [(q1, .inr (10, (fsM 0 0).map (cval ρ0)))] := by
      show [(ρ3 0, ceE ρ3 cT (c0M 0))] = _
      rw [r30, fs0_E ρ3 ρ0]
    have p3 : va_P D CL [(q1, .inr (10, (fsM 0 0).map (cval ρ0)))] H3 := fun k q hq => by
      match k, hq with
      | 0, hq => cases hq; exact hP3 252 _ g4
      | k + 1, hq => simp at hq
    have d3 : va_D (Ah s) [(q1, .inr (10, (fsM 0 0).map (cval ρ0)))] := by
      refine ⟨fun i j p q hi hj _ => ?_, fun k q hq => ?_⟩
      · have i0 : i < 1 := (List.getElem?_eq_some_iff.mp hi).1
        have j0 : j < 1 := (List.getElem?_eq_some_iff.mp hj).1
        omega
      · match k, hq with
        | 0, hq => cases hq; exact hD3.2 252 _ g4
        | k + 1, hq => simp at hq
    exact ⟨by rw [ew]; exact p3, hK, by rw [ew]; exact d3, fun a ha => fs0_C.up (Nat.zero_le _)⟩
  have cs3 : ∀ q, AC 1 ρ3 H3.size q → Ah s q := fun q h => AC_sub hA hW3 hS3 h
  have hM3 := hMM l ρ3 cT D H3.size (by decide) (fun v hv => by
    rcases List.mem_cons.mp hv with z | z
    · rw [z]; exact Nat.zero_lt_one
    · cases z)
  obtain ⟨v1, v3, v5, v6, v7, v8⟩ := ilX10
  have run3 := va_runI (l := l) (e := e) (below := below) (meth := meth) (locs := locs2) (cells := 0 + 1 + 251 + 1) (slots := 0 + 14 + 14926 + 72) (g := F0 m 12 ls [.ref q1, .ref q1]) (As := []) (rest := [.ref q1]) (R := room_1) (H := H3) (b := ρ3 0) (n := 0) ⟨hx, hb, hml, hown, tb_hts C0⟩ hM3
    (cwI 0 (tb_hts C0) (tb_in v6) rfl rfl rfl (tb_hts C0 _ v5) (tb_hts C0 _ (ts5 186 rfl rfl)) (tb_hts C0 _ v3) v1 v7 ⟨by show 40 + 1 + 1 ≤ 2048; omega, by show 8 + (1 + 11) + 40 * (40 + 1) ≤ 84000; omega⟩)
    ⟨PreK_blind, fun U hU hw => ⟨rfl, PreK_at hA hW3 hB3 hM hS3 hU hw⟩⟩ rfl rfl hl.1 (by rw [r30]; rfl) (lv_room (Nat.le_of_ble_eq_true rfl)) dL_law_12 ⟨by show 0 + 1 + 251 + 1 + 46 ≤ 600000; omega, by show 0 + 14 + 14926 + 72 + 12847 ≤ 7302250; omega⟩
  refine ctor_goL run3 cs3 hS3 (fun H4 locs4 ρ4 x4 hW4 hS4 hk4 => ?_)
  have hM4' : Wl 47 shM ρ4 cT D (AC 1 ρ3 H3.size) μM s H4 := ⟨by rw [← ceOf_wc]; exact hW4.1, hW4.2.1, by rw [← ceOf_wc]; exact hW4.2.2.1, shM_D _⟩
  have m0 : ρ4 0 = q1 := by rw [x4 0 (Or.inl (by decide)), r30]
  have lt3 : ∀ a, a < 252 → ρ2 (πC a) < H3.size := fun a ha => hC3.lt ha
  have nA : ∀ a, a < 252 → ¬ AC 1 ρ3 H3.size (ρ2 (πC a)) := fun a ha z => by
    rcases z with ⟨j, hj, z⟩ | z
    · have : j = 0 := by omega
      rw [this, r30] at z
      exact ne3 a ha z
    · have := lt3 a ha
      omega
  have hC4 : Wl 252 shK (fun a => ρ2 (πC a)) cT D (Ah s) μC s H4 := hC3.kept fun a ha hlt => hk4 _ hlt (nA a ha)
  have dis : ∀ a a', a < 252 → a' < 47 → (fun a => ρ2 (πC a)) a ≠ ρ4 a' := fun a a' ha ha' z => by
    have := hM4'.2.2.1.2 a' _ (wl_get ha')
    have z : ρ2 (πC a) = ρ4 a' := z
    exact nA a ha (by rw [z]; exact this)
  have xC : Ext 0 ρ0 (fun a => ρ2 (πC a)) := fun a ha => by
    have h6 : 1000000 ≤ a := ha.elim (fun z => absurd z (Nat.not_lt_zero _)) id
    show ρ2 (πC a) = ρ0 a
    rw [ordC.2.2.1 a h6, x2 a (Or.inr h6), x1 a (Or.inr h6)]
  have xM : Ext 0 ρ0 ρ4 := fun a ha => by
    have h6 : 1000000 ≤ a := ha.elim (fun z => absurd z (Nat.not_lt_zero _)) id
    rw [x4 a (Or.inr h6), x3 a (Or.inr h6)]
  refine lv_astore_n (lv' := [(2, .ref q1), (1, .ref q0), (0, .ref b)]) hx hb dL_law_15 rfl hl (by decide) rfl (fun ls hl => ?_)
  refine lv_iconst (v := 0) hx hb dL_law_16 (by decide) ?_
  refine lv_istore_n (lv' := [(3, .int 0), (2, .ref q1), (1, .ref q0), (0, .ref b)]) hx hb dL_law_17 rfl hl (by decide) rfl (fun ls hl => ?_)
  refine W.widen (k := 299) (n := 27859) (by omega) (by omega) ?_
  have go := law_loop (l := l) (e := e) (below := below) C0 hL (L + 1) 0 μC μM (by omega) (by omega) hSim (fun a => ρ2 (πC a)) ρ4 cT D H4 locs4 ls ⟨⟨hC4, hM4'.weak cs3⟩, dis, ⟨hB0.ext xC, hB0.ext xM⟩, hS4⟩
  refine go ?_
  show lv_has ls 4 [(0, .ref b), (1, .ref (ρ2 (πC 0))), (2, .ref (ρ4 0)), (3, .int 0)]
  rw [c0, m0]
  exact lv_sub hl [3, 2, 1, 0] rfl
end Law
