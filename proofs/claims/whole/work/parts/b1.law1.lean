/-! ===== the law: two worlds side by side ===== -/
def Ah (s : State) : Nat → Prop := fun q => s.heap.size ≤ q
def TW (s : State) (ρC ρM : Nat → Nat) (cT : Nat → ClassId) (D : va_G) (μC μM : Mem) (H : Heap) (locs : List Loc) : Prop :=
  (Wl 252 shK ρC cT D (Ah s) μC s H ∧ Wl 47 shM ρM cT D (Ah s) μM s H) ∧ (∀ a a', a < 252 → a' < 47 → ρC a ≠ ρM a') ∧ (Amb (Ah s) ρC s s.heap ∧ Amb (Ah s) ρM s s.heap) ∧ va_S (Ah s) s.heap H locs
def tS (b : Nat) (ρC ρM : Nat → Nat) : Int32 ⊕ Nat → Value
  | .inl x => .int x
  | .inr 0 => .ref b
  | .inr 1 => .ref (ρC 0)
  | .inr _ => .ref (ρM 0)
theorem Wl.kept {N : Nat} {sh : Nat → Nat × Nat} {ρ : Nat → Nat} {cT : Nat → ClassId} {D : va_G} {A : Nat → Prop} {μ : Mem} {s : State} {H H1 : Heap} (h : Wl N sh ρ cT D A μ s H) (hk : ∀ a, a < N → ρ a < H.size → H1[ρ a]? = H[ρ a]?) : Wl N sh ρ cT D A μ s H1 := by
  refine ⟨fun k q hq => ?_, h.2⟩
  have h1 := h.1 k q hq
  have hN := wl_lt hq
  rw [wl_get hN] at hq
  cases hq
  exact h1.kept (hk k hN h1.lt)
theorem Wl.at0 {N : Nat} {sh : Nat → Nat × Nat} {ρ : Nat → Nat} {cT : Nat → ClassId} {D : va_G} {A : Nat → Prop} {μ : Mem} {s : State} {H : Heap} (h : Wl N sh ρ cT D A μ s H) : AB N ρ A := fun a ha => h.2.2.1.2 a _ (wl_get ha)
section CallGo
variable {p : Program} {l : Launch} {e : Env} {R : Room} {s : State} {m : MethodId} {args : Array Value} {below : List Frame} {meth : Method} {c : Code} {H : Heap} {locs : List Loc} {cells slots : Nat} {Q : State → Prop}
theorem call_go2 {A : Nat → Prop} {N : Nat} {sh : Nat → Nat × Nat} {ρ : Nat → Nat} {cT : Nat → ClassId} {D : va_G} {μ1 : Mem} {r1 : Option V} {pc : Nat} {al : Array Slot} {st0 rest : List Value} {a : Array Value}
    (hr : va_Run p l e R s m args below meth c H locs cells slots 0 0 (F0 m pc al st0) rest (QC N sh ρ cT D (Ain N ρ) r1 μ1 a) (Ain N ρ)) (hB : AB N ρ A) (hS : va_S A s.heap H locs)
    (kk : ∀ (H1 : Heap) (locs1 : List Loc), Wl N sh ρ cT D A μ1 s H1 → va_S A s.heap H1 locs1 → (∀ q, q < H.size → ¬ Ain N ρ q → H1[q]? = H[q]?) → W p l e R s m args below meth c H1 locs1 cells slots Q (F0 m (pc + 3) al ((r1.map (toV ρ)).toList ++ rest))) : W p l e R s m args below meth c H locs cells slots Q (F0 m pc al st0) := by
  intro T hT X
  obtain ⟨v, st₀, t, T', L, h0, X', hL, e1, e2, ⟨hv, hWt, ⟨hz, hk⟩, hvok⟩, st⟩ := hr T hT X
  have hv : v = r1.map (toV ρ) := by cases hv; rfl
  subst hv
  rw [h0] at hz hk
  have hvm : s.vm.Alike t.vm := by rw [← e2]; exact X'.warmed.alike
  have hin : ∀ q, Ain N ρ q → A q := fun q ⟨a, ha, e⟩ => by rw [e]; exact hB a ha
  obtain ⟨t2, a1, b1⟩ := kk T'.heap (locs ++ L) ⟨by rw [e1]; exact hWt.1, va_K.moved hvm.symm hWt.2.1, hWt.2.2.1.weaken (fun _ q _ h => hin q.1 h), hWt.2.2.2⟩
    ⟨Nat.le_trans hS.1 (by rw [e1]; exact hz), fun q h1 h2 => by rw [e1, hk q (Nat.lt_of_lt_of_le h1 hS.1) (fun z => h2 (hin q z))]; exact hS.2.1 q h1 h2, fun q hq => by
      rcases List.mem_append.mp hq with h | h
      · exact hS.2.2 q h
      · exact hin _ (hL q h)⟩ (fun q h1 h2 => by rw [e1]; exact hk q h1 h2) T' rfl X'
  exact ⟨t2, st t2 a1, b1⟩
end CallGo
section Law
variable {p : Program} {l : Launch} {e : Env} {s : State} {m : MethodId} {below : List Frame} {meth : Method} {c : Code} {b L : Nat} {xs : Nat → Int32} {i pc : Nat} {st : List (Int32 ⊕ Nat)} {μC μM : Mem}
/-- at this place of the law, with this stack, both worlds so: it comes to its end with true -/
def LW (p : Program) (l : Launch) (e : Env) (s : State) (m : MethodId) (below : List Frame) (meth : Method) (c : Code) (b i pc : Nat) (st : List (Int32 ⊕ Nat)) (μC μM : Mem) : Prop :=
  ∀ (ρC ρM : Nat → Nat) (cT : Nat → ClassId) (D : va_G) (H : Heap) (locs : List Loc) (al : Array Slot), TW s ρC ρM cT D μC μM H locs → lv_has al 4 [(0, .ref b), (1, .ref (ρC 0)), (2, .ref (ρM 0)), (3, .int (nI i))] → W p l e room_1 s m #[Value.ref b] below meth c H locs 299 27859 (lw_Z below #[Value.ref b] s) (F0 m pc al (st.map (tS b ρC ρM)))
theorem L_al0 (C0 : lw_At p s m meth c b L xs) (hd : decode code pc = .ok (.aload_n 0, 1)) (k : LW p l e s m below meth c b i (pc + 1) (.inr 0 :: st) μC μM) : LW p l e s m below meth c b i pc st μC μM := fun ρC ρM cT D H locs al hT hl => lv_aload_n C0.1 C0.2.1 hd rfl (lv_at hl 0 rfl) (k ρC ρM cT D H locs al hT hl)
theorem L_al1 (C0 : lw_At p s m meth c b L xs) (hd : decode code pc = .ok (.aload_n 1, 1)) (k : LW p l e s m below meth c b i (pc + 1) (.inr 1 :: st) μC μM) : LW p l e s m below meth c b i pc st μC μM := fun ρC ρM cT D H locs al hT hl => lv_aload_n C0.1 C0.2.1 hd rfl (lv_at hl 1 rfl) (k ρC ρM cT D H locs al hT hl)
theorem L_al2 (C0 : lw_At p s m meth c b L xs) (hd : decode code pc = .ok (.aload_n 2, 1)) (k : LW p l e s m below meth c b i (pc + 1) (.inr 2 :: st) μC μM) : LW p l e s m below meth c b i pc st μC μM := fun ρC ρM cT D H locs al hT hl => lv_aload_n C0.1 C0.2.1 hd rfl (lv_at hl 2 rfl) (k ρC ρM cT D H locs al hT hl)
theorem L_il (C0 : lw_At p s m meth c b L xs) (hd : decode code pc = .ok (.iload_n 3, 1)) (k : LW p l e s m below meth c b i (pc + 1) (.inl (nI i) :: st) μC μM) : LW p l e s m below meth c b i pc st μC μM := fun ρC ρM cT D H locs al hT hl => lv_iload_n C0.1 C0.2.1 hd rfl (lv_at hl 3 rfl) (k ρC ρM cT D H locs al hT hl)
theorem L_ic (C0 : lw_At p s m meth c b L xs) {n : Int} (v : Int32) (hv : Int32.ofInt n = v) (hd : decode code pc = .ok (.iconst n, 1)) (k : LW p l e s m below meth c b i (pc + 1) (.inl v :: st) μC μM) : LW p l e s m below meth c b i pc st μC μM := fun ρC ρM cT D H locs al hT hl => lv_iconst C0.1 C0.2.1 hd hv (k ρC ρM cT D H locs al hT hl)
theorem L_add (C0 : lw_At p s m meth c b L xs) {x y : Int32} (hd : decode code pc = .ok (.iadd, 1)) (k : LW p l e s m below meth c b i (pc + 1) (.inl (x + y) :: st) μC μM) : LW p l e s m below meth c b i pc (.inl y :: .inl x :: st) μC μM := fun ρC ρM cT D H locs al hT hl => lv_iadd C0.1 C0.2.1 hd (k ρC ρM cT D H locs al hT hl)
theorem L_ld (C0 : lw_At p s m meth c b L xs) {j : Nat} (hj : j < L) (hL : L ≤ 3072) (hd : decode code pc = .ok (.iaload, 1)) (k : LW p l e s m below meth c b i (pc + 1) (.inl (xs j) :: st) μC μM) : LW p l e s m below meth c b i pc (.inl (nI j) :: .inr 0 :: st) μC μM := fun ρC ρM cT D H locs al hT hl => by
  obtain ⟨hx, hb, hr, hml, hown, hts, hX, hbl, hlocks, hgv⟩ := C0
  have hbA : ¬ Ah s b := Nat.not_le.mpr hbl
  have k1 := k ρC ρM cT D H locs al hT hl
  refine va_sld hx hb hX hbl hbA hT.2.2.2 (vp_inN hj (by omega)) hd ?_
  rw [nI_clamp (by omega)]
  exact k1
/-- a number of the script, on the stack -/
theorem L_arg (C0 : lw_At p s m meth c b L xs) {n : Int} (j : Nat) (hv : Int32.ofInt n = nI j) (hj : i + j < L) (hL : L ≤ 3072) (h0 : decode code pc = .ok (.aload_n 0, 1)) (h1 : decode code (pc + 1) = .ok (.iload_n 3, 1)) (h2 : decode code (pc + 1 + 1) = .ok (.iconst n, 1)) (h3 : decode code (pc + 1 + 1 + 1) = .ok (.iadd, 1)) (h4 : decode code (pc + 1 + 1 + 1 + 1) = .ok (.iaload, 1)) (k : LW p l e s m below meth c b i (pc + 1 + 1 + 1 + 1 + 1) (.inl (xs (i + j)) :: st) μC μM) : LW p l e s m below meth c b i pc st μC μM := by
  refine L_al0 C0 h0 (L_il C0 h1 (L_ic C0 (nI j) hv h2 (L_add C0 h3 ?_)))
  rw [nJ_add]
  exact L_ld C0 hj hL h4 k
theorem L_bool (C0 : lw_At p s m meth c b L xs) {x : Int32} {o1 o2 : Int} (h0 : decode code pc = .ok (.ifCond .eq o1, 3)) (e1 : (pc : Int) + o1 = ((pc + 3 + 1 + 3 : Nat) : Int)) (h1 : decode code (pc + 3) = .ok (.iconst 1, 1)) (h2 : decode code (pc + 3 + 1) = .ok (.goto o2, 3)) (e2 : ((pc + 3 + 1 : Nat) : Int) + o2 = ((pc + 3 + 1 + 3 + 1 : Nat) : Int)) (h3 : decode code (pc + 3 + 1 + 3) = .ok (.iconst 0, 1)) (k : LW p l e s m below meth c b i (pc + 3 + 1 + 3 + 1) (.inl (if x = 0 then 0 else 1) :: st) μC μM) : LW p l e s m below meth c b i pc (.inl x :: st) μC μM := fun ρC ρM cT D H locs al hT hl => by
  have hx := C0.1
  have hb := C0.2.1
  have k1 := k ρC ρM cT D H locs al hT hl
  refine lv_if_eq hx hb h0 e1 (fun q => ?_) (fun q => ?_)
  · rw [if_pos q] at k1
    exact lv_iconst hx hb h3 (by decide) k1
  · rw [if_neg q] at k1
    exact lv_iconst hx hb h1 (by decide) (lv_goto hx hb h2 e2 k1)
theorem L_eq (C0 : lw_At p s m meth c b L xs) {x : Int32} {off : Int} (tgt : Nat) (hd : decode code pc = .ok (.if_icmp .eq off, 3)) (ht : (pc : Int) + off = (tgt : Int)) (k : LW p l e s m below meth c b i tgt st μC μM) : LW p l e s m below meth c b i pc (.inl x :: .inl x :: st) μC μM := fun ρC ρM cT D H locs al hT hl => lv_icmp_eq C0.1 C0.2.1 hd ht (fun _ => k ρC ρM cT D H locs al hT hl) (fun q => absurd rfl q)
theorem tb_hts (C0 : lw_At p s m meth c b L xs) : ∀ w ∈ tb, w.before #[Value.ref b] s = true := fun w hw => C0.2.2.2.2.2.1 w (List.mem_filter.mp hw).1
theorem vsV {t : Nat} {N : Nat} {sh : Nat → Nat × Nat} {vs : List Int32} (ht : t < 18) (h0 : 0 < N) (hs : sh 0 = (t, 0)) : ∀ v ∈ vr t 0 0 :: vs.map vi, VOK N sh v := fun v hv => by
  rcases List.mem_cons.mp hv with e | e
  · rw [e]; exact VOK_mk ht ⟨h0, hs⟩
  · obtain ⟨x, _, e⟩ := List.mem_map.mp e
    rw [← e]; trivial
theorem st_eq {b t : Nat} {ρC ρM ρ : Nat → Nat} {vs : List Int32} {st : List (Int32 ⊕ Nat)} {o : Nat} (ho : tS b ρC ρM (.inr o) = .ref (ρ 0)) : (vs.reverse.map Sum.inl ++ Sum.inr o :: st).map (tS b ρC ρM) = ((vs.map vi).map (toV ρ)).reverse ++ .ref (ρ 0) :: st.map (tS b ρC ρM) := by
  rw [List.map_append, List.map_cons, ho, List.map_map, List.map_map, ← List.map_reverse]
  rfl
theorem L_callC (C0 : lw_At p s m meth c b L xs) {y2 : MethodName} {cc2 : ByteArray} {nL2 idx k : Nat} {x : Int32} {rt : Option FieldType} {μ1 : Mem} (vs : List Int32) (hw : VL R_law idx 9 y2 cc2 nL2 rt k) (hn : vs.length = k) (hroom : st.length ≤ 8) (hd : decode code pc = .ok (.invokevirtual idx, 3)) (hM : Me 40 y2 cc2 nL2 rt (vr 9 0 0 :: vs.map vi) μC (some (vi x)) μ1) (kk : LW p l e s m below meth c b i (pc + 3) (.inl x :: st) μ1 μM) : LW p l e s m below meth c b i pc (vs.reverse.map Sum.inl ++ Sum.inr 1 :: st) μC μM := fun ρC ρM cT D H locs al hT hl => by
  obtain ⟨hx, hb, hr, hml, hown, hts, hX, hbl, hlocks, hgv⟩ := id C0
  obtain ⟨⟨T, kt, w0⟩, w1, w2, w3, w4, w5, w6, w7, w8⟩ := hw
  obtain ⟨⟨hC, hMo⟩, hdis, ⟨aC, aM⟩, hS⟩ := hT
  have hB := hC.at0
  have s0 : shK 0 = (9, 0) := by decide +kernel
  have hM := hM l 252 shK ρC cT D shK_C (vsV (by decide) (by decide) s0)
  have hG : GoodIn tb (wsV R_law idx y2.cls y2 (.code y2 cc2 nL2 rt :: tb)) := by
    intro w hw
    rcases List.mem_append.mp hw with q | q
    · simp only [List.mem_cons, List.not_mem_nil, or_false] at q
      rcases q with rfl | rfl | rfl | rfl
      · exact ⟨w2, tb_good w2⟩
      · exact ⟨w3, tb_good w3⟩
      · exact ⟨w4, tb_good w4⟩
      · exact ⟨w5, tb_good w5⟩
    · exact tb_in w6 w q
  have hcat : ((st.map (tS b ρC ρM)).map fun v => v.category).sum ≤ 8 := by
    have : ∀ z : List (Int32 ⊕ Nat), ((z.map (tS b ρC ρM)).map fun v => v.category).sum = z.length := fun z => by
      induction z with
      | nil => rfl
      | cons a z ih =>
        rw [List.map_cons, List.map_cons, List.sum_cons, ih, List.length_cons]
        have : (tS b ρC ρM a).category = 1 := by
          match a with
          | .inl _ => rfl
          | .inr 0 => rfl
          | .inr 1 => rfl
          | .inr (n + 2) => rfl
        omega
    rw [this]; exact hroom
  have hrun := va_runV (l := l) (e := e) (below := below) (meth := meth) (locs := locs) (cells := 299) (slots := 27859) (g := F0 m pc al ((vs.reverse.map Sum.inl ++ Sum.inr 1 :: st).map (tS b ρC ρM))) (As := (vs.map vi).map (toV ρC)) (rest := st.map (tS b ρC ρM)) (R := room_1) (H := H) (b := ρC 0) (n := k) ⟨hx, hb, hml, hown, tb_hts C0⟩ hM
    (cwV k (tb_hts C0) hG rfl rfl rfl ⟨rfl, w7⟩ ⟨by show 40 + 1 + 1 ≤ 2048; omega, by show 8 + (nL2 + 11) + 40 * (40 + 1) ≤ 84000; omega⟩)
    ⟨Pre_blind, va_recv hC.2.1 hC.1 w0 (by rw [wl_get (show 0 < 252 by decide), cell_obj s0 w1]), fun U hU hw => ⟨rfl, Pre_at hB hC aC hS hU hw⟩⟩ rfl (by rw [List.length_map, List.length_map]; exact hn) hl.1 (by rw [st_eq (ρ := ρC) (o := 1) (t := 0) rfl]) (lv_room hcat) hd ⟨by show 299 + 0 ≤ 600000; omega, by show 27859 + 0 ≤ 7302250; omega⟩
  refine call_go2 hrun hB hS (fun H1 locs1 hW1 hS1 hk => ?_)
  exact kk ρC ρM cT D H1 locs1 al ⟨⟨hW1, hMo.kept fun a ha hlt => hk _ hlt fun ⟨a', ha', z⟩ => hdis a' a ha' ha z.symm⟩, hdis, ⟨aC, aM⟩, hS1⟩ hl
theorem L_callM (C0 : lw_At p s m meth c b L xs) {y2 : MethodName} {cc2 : ByteArray} {nL2 idx k : Nat} {x : Int32} {rt : Option FieldType} {μ1 : Mem} (vs : List Int32) (hw : VL R_law idx 10 y2 cc2 nL2 rt k) (hn : vs.length = k) (hroom : st.length ≤ 8) (hd : decode code pc = .ok (.invokevirtual idx, 3)) (hM : Me 40 y2 cc2 nL2 rt (vr 10 0 0 :: vs.map vi) μM (some (vi x)) μ1) (kk : LW p l e s m below meth c b i (pc + 3) (.inl x :: st) μC μ1) : LW p l e s m below meth c b i pc (vs.reverse.map Sum.inl ++ Sum.inr 2 :: st) μC μM := fun ρC ρM cT D H locs al hT hl => by
  obtain ⟨hx, hb, hr, hml, hown, hts, hX, hbl, hlocks, hgv⟩ := id C0
  obtain ⟨⟨T, kt, w0⟩, w1, w2, w3, w4, w5, w6, w7, w8⟩ := hw
  obtain ⟨⟨hC, hMo⟩, hdis, ⟨aC, aM⟩, hS⟩ := hT
  have hB := hMo.at0
  have s0 : shM 0 = (10, 0) := by decide +kernel
  have hM := hM l 47 shM ρM cT D shM_C (vsV (by decide) (by decide) s0)
  have hG : GoodIn tb (wsV R_law idx y2.cls y2 (.code y2 cc2 nL2 rt :: tb)) := by
    intro w hw
    rcases List.mem_append.mp hw with q | q
    · simp only [List.mem_cons, List.not_mem_nil, or_false] at q
      rcases q with rfl | rfl | rfl | rfl
      · exact ⟨w2, tb_good w2⟩
      · exact ⟨w3, tb_good w3⟩
      · exact ⟨w4, tb_good w4⟩
      · exact ⟨w5, tb_good w5⟩
    · exact tb_in w6 w q
  have hcat : ((st.map (tS b ρC ρM)).map fun v => v.category).sum ≤ 8 := by
    have : ∀ z : List (Int32 ⊕ Nat), ((z.map (tS b ρC ρM)).map fun v => v.category).sum = z.length := fun z => by
      induction z with
      | nil => rfl
      | cons a z ih =>
        rw [List.map_cons, List.map_cons, List.sum_cons, ih, List.length_cons]
        have : (tS b ρC ρM a).category = 1 := by
          match a with
          | .inl _ => rfl
          | .inr 0 => rfl
          | .inr 1 => rfl
          | .inr (n + 2) => rfl
        omega
    rw [this]; exact hroom
  have hrun := va_runV (l := l) (e := e) (below := below) (meth := meth) (locs := locs) (cells := 299) (slots := 27859) (g := F0 m pc al ((vs.reverse.map Sum.inl ++ Sum.inr 2 :: st).map (tS b ρC ρM))) (As := (vs.map vi).map (toV ρM)) (rest := st.map (tS b ρC ρM)) (R := room_1) (H := H) (b := ρM 0) (n := k) ⟨hx, hb, hml, hown, tb_hts C0⟩ hM
    (cwV k (tb_hts C0) hG rfl rfl rfl ⟨rfl, w7⟩ ⟨by show 40 + 1 + 1 ≤ 2048; omega, by show 8 + (nL2 + 11) + 40 * (40 + 1) ≤ 84000; omega⟩)
    ⟨Pre_blind, va_recv hMo.2.1 hMo.1 w0 (by rw [wl_get (show 0 < 47 by decide), cell_obj s0 w1]), fun U hU hw => ⟨rfl, Pre_at hB hMo aM hS hU hw⟩⟩ rfl (by rw [List.length_map, List.length_map]; exact hn) hl.1 (by rw [st_eq (ρ := ρM) (o := 2) (t := 0) rfl]) (lv_room hcat) hd ⟨by show 299 + 0 ≤ 600000; omega, by show 27859 + 0 ≤ 7302250; omega⟩
  refine call_go2 hrun hB hS (fun H1 locs1 hW1 hS1 hk => ?_)
  exact kk ρC ρM cT D H1 locs1 al ⟨⟨hC.kept fun a ha hlt => hk _ hlt fun ⟨a', ha', z⟩ => hdis a a' ha ha' z, hW1⟩, hdis, ⟨aC, aM⟩, hS1⟩ hl
end Law
