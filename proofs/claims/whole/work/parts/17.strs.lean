/-! ===== texts ===== -/
def sln (n : Nat) : Nat := [115, 9].getD n 0
def sby (n j : Nat) : Int32 := (([bytW, bytS] : List (List Int32)).getD n []).getD j 0
theorem VOK_s {N : Nat} {sh : Nat → Nat × Nat} {n a : Nat} (h : VOK N sh (vr 20 n a)) : n < 2 ∧ a = 1000000 + 2 * n := h
theorem VOK_b {N : Nat} {sh : Nat → Nat × Nat} {n a : Nat} (h : VOK N sh (vr 21 n a)) : n < 2 ∧ a = 1000001 + 2 * n := h
section StrRows
variable {d : Nat} {y : MethodName} {cc : ByteArray} {nL : Nat} {ret : Option FieldType} {pc : Nat} {ls : List (Option V)} {st : List V} {μ μ' : Mem} {r : Option V}
theorem Ev_ldcW (hy : y.cls = RX6) (hd : decode cc pc = .ok (.ldc 27, 2)) (k : Ev d y cc nL ret (pc + 2) ls (vr 20 0 1000000 :: st) μ r μ') : Ev d y cc nL ret pc ls st μ r μ' := by
  intro l R N sh ρ cT D A p e s m args below meth c H locs cells slots al hR hC hB hX hW hA hS hls hst hL
  exact va_ldcS hX.1 hX.2.1 (by rw [← hy]; exact hX.2.2.2.2.1) hA.2.1 hd (k l R N sh ρ cT D A p e s m args below meth c H locs cells slots al hR hC hB hX hW hA hS hls (SV.cons ⟨by decide, rfl⟩ hst) hL)
theorem Ev_ldcS (hy : y.cls = RX6) (hd : decode cc pc = .ok (.ldc 77, 2)) (k : Ev d y cc nL ret (pc + 2) ls (vr 20 1 1000002 :: st) μ r μ') : Ev d y cc nL ret pc ls st μ r μ' := by
  intro l R N sh ρ cT D A p e s m args below meth c H locs cells slots al hR hC hB hX hW hA hS hls hst hL
  exact va_ldcS hX.1 hX.2.1 (by rw [← hy]; exact hX.2.2.2.2.1) hA.2.2.1 hd (k l R N sh ρ cT D A p e s m args below meth c H locs cells slots al hR hC hB hX hW hA hS hls (SV.cons ⟨by decide, rfl⟩ hst) hL)
theorem Ev_getSV {n a idx : Nat} (hl : Cond.fieldLink y.cls idx "java/lang/String" "value" "[B" ∈ tb) (hd : decode cc pc = .ok (.getfield idx, 3)) (k : Ev d y cc nL ret (pc + 3) ls (vr 21 n (a + 1) :: st) μ r μ') : Ev d y cc nL ret pc ls (vr 20 n a :: st) μ r μ' := by
  intro l R N sh ρ cT D A p e s m args below meth c H locs cells slots al hR hC hB hX hW hA hS hls hst hL
  obtain ⟨h1, rfl⟩ := VOK_s hst.hd
  have hv : VOK N sh (vr 21 n (1000000 + 2 * n + 1)) := by
    show n < 2 ∧ 1000000 + 2 * n + 1 = 1000001 + 2 * n
    exact ⟨h1, by omega⟩
  have k1 := k l R N sh ρ cT D A p e s m args below meth c H locs cells slots al hR hC hB hX hW hA hS hls (SV.cons hv hst.tl) hL
  have e1 : toV ρ (vr 21 n (1000000 + 2 * n + 1)) = .ref (ρ (1000001 + 2 * n)) := by
    show Value.ref (ρ (1000000 + 2 * n + 1)) = _
    rw [show 1000000 + 2 * n + 1 = 1000001 + 2 * n by omega]
  rw [List.map_cons, e1] at k1
  exact vk_getf hX.1 hX.2.1 ((hA.1.1 n h1).2.2.1) hS hX.2.2.2.2.1 (hX.2.2.2.2.2.1 _ hl) (fun _ h => h) hd k1
theorem Ev_getSC {n a idx : Nat} (hl : Cond.fieldLink y.cls idx "java/lang/String" "coder" "B" ∈ tb) (hd : decode cc pc = .ok (.getfield idx, 3)) (k : Ev d y cc nL ret (pc + 3) ls (vi 0 :: st) μ r μ') : Ev d y cc nL ret pc ls (vr 20 n a :: st) μ r μ' := by
  intro l R N sh ρ cT D A p e s m args below meth c H locs cells slots al hR hC hB hX hW hA hS hls hst hL
  obtain ⟨h1, rfl⟩ := VOK_s hst.hd
  exact vk_getf hX.1 hX.2.1 ((hA.1.1 n h1).2.1) hS hX.2.2.2.2.1 (hX.2.2.2.2.2.1 _ hl) (fun _ h => h) hd (k l R N sh ρ cT D A p e s m args below meth c H locs cells slots al hR hC hB hX hW hA hS hls (SV.cons trivial hst.tl) hL)
theorem Ev_getCS {idx : Nat} (hl : Cond.fieldLink y.cls idx "java/lang/String" "COMPACT_STRINGS" "Z" ∈ tb) (hd : decode cc pc = .ok (.getstatic idx, 3)) (k : Ev d y cc nL ret (pc + 3) ls (vi 1 :: st) μ r μ') : Ev d y cc nL ret pc ls st μ r μ' := by
  intro l R N sh ρ cT D A p e s m args below meth c H locs cells slots al hR hC hB hX hW hA hS hls hst hL
  exact va_gets hX.1 hX.2.1 hA.2.2.2.1 hS hX.2.2.2.2.1 (hX.2.2.2.2.2.1 _ hl) (fun _ h => h) hd (k l R N sh ρ cT D A p e s m args below meth c H locs cells slots al hR hC hB hX hW hA hS hls (SV.cons trivial hst) hL)
theorem sT {A : Nat → Prop} {ρ : Nat → Nat} {s : State} {H : Heap} (hA : Amb A ρ s H) {n : Nat} (hn : n < 2) : va_T .byte (ρ (1000001 + 2 * n)) (sln n) (fun j => .int (sby n j)) A s H := (hA.1.1 n hn).2.2.2
theorem Ev_slen {n a : Nat} (hd : decode cc pc = .ok (.arraylength, 1)) (k : Ev d y cc nL ret (pc + 1) ls (vi (nI (sln n)) :: st) μ r μ') : Ev d y cc nL ret pc ls (vr 21 n a :: st) μ r μ' := by
  intro l R N sh ρ cT D A p e s m args below meth c H locs cells slots al hR hC hB hX hW hA hS hls hst hL
  obtain ⟨h1, rfl⟩ := VOK_b hst.hd
  exact va_tlen hX.1 hX.2.1 (sT hA h1) hS rfl hd (k l R N sh ρ cT D A p e s m args below meth c H locs cells slots al hR hC hB hX hW hA hS hls (SV.cons trivial hst.tl) hL)
theorem Ev_sbald {n a : Nat} {i : Int32} (hin : vp_in i (sln n)) (hd : decode cc pc = .ok (.baload, 1)) (k : Ev d y cc nL ret (pc + 1) ls (vi (sby n i.toNatClampNeg) :: st) μ r μ') : Ev d y cc nL ret pc ls (vi i :: vr 21 n a :: st) μ r μ' := by
  intro l R N sh ρ cT D A p e s m args below meth c H locs cells slots al hR hC hB hX hW hA hS hls hst hL
  obtain ⟨h1, rfl⟩ := VOK_b hst.tl.hd
  exact va_tb hX.1 hX.2.1 (sT hA h1) hS hin rfl hd (k l R N sh ρ cT D A p e s m args below meth c H locs cells slots al hR hC hB hX hW hA hS hls (SV.cons trivial hst.tl.tl) hL)
/-- the words of a call of a text's method -/
def TL (own : String) (idx : Nat) (y : MethodName) (cc : ByteArray) (nL : Nat) (ret : Option FieldType) (n : Nat) : Prop :=
  y.cls = "java/lang/String" ∧ Cond.methodLink own idx y ∈ tb ∧ Cond.instanceMethod y ∈ tb ∧ Cond.selects y.cls y y ∈ tb ∧ Cond.initialized y.cls ∈ tb ∧ Cond.code y cc nL ret ∈ tb ∧
  (y.cls ≠ "java/lang/invoke/MethodHandle" ∧ y.cls ≠ "java/lang/invoke/VarHandle" ∧ (parseMethodDescriptor y.desc).map (fun d => d.parameters.length) = some n) ∧ nL ≤ 21
theorem Ev_callT {y2 : MethodName} {cc2 : ByteArray} {nL2 : Nat} {ret2 : Option FieldType} {idx n a : Nat} {stk : List V} {r1 : Option V} {μ1 : Mem} (vs : List V) {k : Nat} (hw : TL y.cls idx y2 cc2 nL2 ret2 k) (hn : vs.length = k) (hs : stk = vs.reverse ++ vr 20 n a :: st) (hroom : (st.map catV).sum ≤ 8) (hd : decode cc pc = .ok (.invokevirtual idx, 3)) (hM : Me d y2 cc2 nL2 ret2 (vr 20 n a :: vs) μ r1 μ1) (kk : Ev (d + 1) y cc nL ret (pc + 3) ls (r1.toList ++ st) μ1 r μ') : Ev (d + 1) y cc nL ret pc ls stk μ r μ' := by
  intro l R N sh ρ cT D A p e s m args below meth c H locs cells slots al hR hC hB hX hW hA hS hls hst hL
  obtain ⟨w0, w2, w3, w4, w5, w6, w7, w8⟩ := hw
  subst hs
  have hvs : ∀ v ∈ vr 20 n a :: vs, VOK N sh v := fun v hv => hst v (by
    rcases List.mem_cons.mp hv with rfl | q
    · exact List.mem_append.mpr (Or.inr List.mem_cons_self)
    · exact List.mem_append.mpr (Or.inl (List.mem_reverse.mpr q)))
  have hst2 : SV N sh st := fun v hv => hst v (List.mem_append.mpr (Or.inr (List.mem_cons_of_mem _ hv)))
  obtain ⟨h1, rfl⟩ := VOK_s (hvs _ List.mem_cons_self)
  have hM := hM l N sh ρ cT D hC hvs
  have hG : GoodIn tb (wsV y.cls idx y2.cls y2 (.code y2 cc2 nL2 ret2 :: tb)) := by
    intro w hw
    rcases List.mem_append.mp hw with q | q
    · simp only [List.mem_cons, List.not_mem_nil, or_false] at q
      rcases q with rfl | rfl | rfl | rfl
      · exact ⟨w2, tb_good w2⟩
      · exact ⟨w3, tb_good w3⟩
      · exact ⟨w4, tb_good w4⟩
      · exact ⟨w5, tb_good w5⟩
    · exact tb_in w6 w q
  have hrv : ∃ cell : Cell, H[ρ (1000000 + 2 * n)]? = some cell ∧ cell.vm.isStatics = false ∧ s.vm.findClass y2.cls = some cell.cls := by
    rw [w0]
    exact vk_recv (adK := fun i => ρ (1000000 + 2 * i)) (i := n) hA.1 h1 hS
  have hrun := va_runV (l := l) (e := e) (below := below) (meth := meth) (locs := locs) (cells := cells) (slots := slots) (g := F0 m pc al ((vs.reverse ++ vr 20 n (1000000 + 2 * n) :: st).map (toV ρ))) (As := vs.map (toV ρ)) (rest := st.map (toV ρ)) (R := R) (H := H) (b := ρ (1000000 + 2 * n)) (n := k) ⟨hX.1, hX.2.1, hX.2.2.1, hX.2.2.2.2.1, hX.2.2.2.2.2.1⟩ hM
    (cwV k hX.2.2.2.2.2.1 hG rfl rfl rfl ⟨rfl, w7⟩ ⟨hR.1, by have := hR.2.1; show 8 + (nL2 + 11) + 40 * (d + 1) ≤ R.locals; omega⟩)
    ⟨Pre_blind, hrv, fun U hU hw => ⟨rfl, Pre_at hB hW hA hS hU hw⟩⟩ rfl (by rw [List.length_map]; exact hn) hL.2.1 (by rw [List.map_append, List.map_reverse]; rfl) (lv_room (by rw [cat_sum]; exact hroom)) hd ⟨hR.2.2.1, hR.2.2.2⟩
  refine call_go hrun hB hS (fun H1 locs1 hW1 hS1 hv1 => ?_)
  have := kk l R N sh ρ cT D A p e s m args below meth c H1 locs1 cells slots al hR hC hB hX hW1 hA hS1 hls (SV.app hv1 hst2) hL
  rw [map_app] at this
  exact this
end StrRows
set_option maxRecDepth 200000 in
theorem mlX6_29 : TL RX6 29 yJ0_length_8abf5 cJ0_length_8abf5 1 ((some .int)) 0 := ⟨rfl, ts1 41 rfl rfl, mwJ0_length_8abf5.1, mwJ0_length_8abf5.2.1, mwJ0_length_8abf5.2.2.1, mwJ0_length_8abf5.2.2.2, mdJ0_length_8abf5, by decide⟩
set_option maxRecDepth 200000 in
theorem mlX6_35 : TL RX6 35 yJ0_charAt_5068e cJ0_charAt_5068e 2 ((some .char)) 1 := ⟨rfl, ts1 51 rfl rfl, mwJ0_charAt_5068e.1, mwJ0_charAt_5068e.2.1, mwJ0_charAt_5068e.2.2.1, mwJ0_charAt_5068e.2.2.2, mdJ0_charAt_5068e, by decide⟩
set_option maxRecDepth 200000 in
theorem mlX6_79 : TL RX6 79 yJ0_indexOf_0f7a4 cJ0_indexOf_0f7a4 2 ((some .int)) 1 := ⟨rfl, ts3 75 rfl rfl, mwJ0_indexOf_0f7a4.1, mwJ0_indexOf_0f7a4.2.1, mwJ0_indexOf_0f7a4.2.2.1, mwJ0_indexOf_0f7a4.2.2.2, mdJ0_indexOf_0f7a4, by decide⟩
set_option maxRecDepth 200000 in
theorem mlJ0_335 : TL RJ0 335 yJ0_coder_7d493 cJ0_coder_7d493 1 ((some .byte)) 0 := ⟨rfl, ts1 45 rfl rfl, mwJ0_coder_7d493.1, mwJ0_coder_7d493.2.1, mwJ0_coder_7d493.2.2.1, mwJ0_coder_7d493.2.2.2, mdJ0_coder_7d493, by decide⟩
set_option maxRecDepth 200000 in
theorem mlJ0_492 : TL RJ0 492 yJ0_isLatin1_aae02 cJ0_isLatin1_aae02 1 ((some .boolean)) 0 := ⟨rfl, ts1 55 rfl rfl, mwJ0_isLatin1_aae02.1, mwJ0_isLatin1_aae02.2.1, mwJ0_isLatin1_aae02.2.2.1, mwJ0_isLatin1_aae02.2.2.2, mdJ0_isLatin1_aae02, by decide⟩
set_option maxRecDepth 200000 in
theorem mlJ0_505 : TL RJ0 505 yJ0_length_8abf5 cJ0_length_8abf5 1 ((some .int)) 0 := ⟨rfl, ts3 83 rfl rfl, mwJ0_length_8abf5.1, mwJ0_length_8abf5.2.1, mwJ0_length_8abf5.2.2.1, mwJ0_length_8abf5.2.2.2, mdJ0_length_8abf5, by decide⟩
set_option maxRecDepth 200000 in
theorem mlJ0_633 : TL RJ0 633 yJ0_indexOf_7cf53 cJ0_indexOf_7cf53 3 ((some .int)) 2 := ⟨rfl, ts3 79 rfl rfl, mwJ0_indexOf_7cf53.1, mwJ0_indexOf_7cf53.2.1, mwJ0_indexOf_7cf53.2.2.1, mwJ0_indexOf_7cf53.2.2.2, mdJ0_indexOf_7cf53, by decide⟩
/-! ===== String.checkIndex: nothing, where the place is in range ===== -/
theorem chk3 {d : Nat} {μ : Mem} {i n : Int32} (h : ¬ i < 0) (h2 : i < n) (l : Launch) (N : Nat) (sh : Nat → Nat × Nat) (ρ : Nat → Nat) (cT : Nat → ClassId) (D : va_G) (v : Value) (hv : v.category = 1) : Met l yJ3_checkIndex_8e157 (.code yJ3_checkIndex_8e157 cJ3_checkIndex_8e157 3 (some .int) :: tb) (rmd d) (va_Pc [.int i, .int n, v] (Pre N sh ρ cT D μ)) (QC N sh ρ cT D (Ain N ρ) (some (vi i)) μ) 0 0 (Ain N ρ) := by
  refine Met.ofW (cc := cJ3_checkIndex_8e157) (maxL := 3) (ret := some .int) (by decide) rfl ?_
  intro p e s m args below meth c s₁ B hml hpc
  obtain ⟨rfl, hW, hA⟩ := hpc
  have hx := B.exec
  have hb := B.bytes
  have hr := B.returns
  have hlocks := B.notSynchronized
  have hlen : (lg_sl [Value.int i, Value.int n, v]).length ≤ 3 := by
    have e1 : (Value.int i).category = 1 := rfl
    have e2 : (Value.int n).category = 1 := rfl
    simp [lg_sl, hv, e1, e2]
  have hl := lv_entry [Value.int i, Value.int n, v] (n := 3) hlen
  rw [lg_entry_eq]
  generalize (lg_sl [Value.int i, Value.int n, v] ++ List.replicate (3 - (lg_sl [Value.int i, Value.int n, v]).length) Slot.unset).toArray = ls at hl ⊢
  have hl : lv_has ls 3 [(0, .int i), (1, .int n)] := lv_mono hl (fun q hq => by
    simp only [List.mem_cons, List.not_mem_nil, or_false] at hq
    have e1 : (Value.int i).category = 1 := rfl
    rcases hq with rfl | rfl <;> simp [lv_args, e1])
  refine lv_iload_n hx hb dJ3_checkIndex_8e157_0 rfl (lv_at hl 0 rfl) ?_
  refine lv_if_lt (tgt := 9) hx hb dJ3_checkIndex_8e157_1 (by decide) (fun q => absurd q h) (fun _ => ?_)
  refine lv_iload_n hx hb dJ3_checkIndex_8e157_4 rfl (lv_at hl 0 rfl) ?_
  refine lv_iload_n hx hb dJ3_checkIndex_8e157_5 rfl (lv_at hl 1 rfl) ?_
  refine lv_icmp_lt (tgt := 16) hx hb dJ3_checkIndex_8e157_6 (by decide) (fun _ => ?_) (fun q => absurd h2 q)
  refine lv_iload_n hx hb dJ3_checkIndex_8e157_16 rfl (lv_at hl 0 rfl) ?_
  exact W.zret hx hb hr rfl (fun t ht hw => ⟨rfl, ⟨by rw [ht]; exact hW.1, va_K.moved hw.alike hW.2.1, hW.2.2⟩, va_S.F (va_S.rf) ht, fun v hv => by cases hv; trivial⟩) (fun _ hq => by cases hq) dJ3_checkIndex_8e157_17 hlocks
theorem J0_chk_ok {d : Nat} {x0 x1 : Int32} {μ : Mem} (h : ¬ x0 < 0) (h2 : x0 < x1) : Me (d + 1) yJ0_checkIndex_df160 cJ0_checkIndex_df160 2 none [vi x0, vi x1] μ none μ := by
  refine Me_of [some (vi x0), some (vi x1)] rfl (Nat.le_of_ble_eq_true rfl) (by decide) ?_
  refine Ev_iload_n dJ0_checkIndex_df160_0 rfl ?_
  refine Ev_iload_n dJ0_checkIndex_df160_1 rfl ?_
  intro l R N sh ρ cT D A p e s m args below meth c H locs cells slots al hR hC hB hX hW hA hS hls hst hL
  have hgo : ∀ v : Value, v.category = 1 → va_Z "jdk/internal/util/Preconditions" "SIOOBE_FORMATTER" "Ljava/util/function/BiFunction;" v A s s.heap → W p l e R s m args below meth c H locs cells slots (MQ below (QC N sh ρ cT D A none μ) args s cells slots A) (F0 m 2 al [.int x1, .int x0]) := by
    intro v hv hZ
    refine va_gets hX.1 hX.2.1 hZ hS hX.2.2.2.2.1 (hX.2.2.2.2.2.1 (Cond.fieldLink "java/lang/String" 1053 "jdk/internal/util/Preconditions" "SIOOBE_FORMATTER" "Ljava/util/function/BiFunction;") (ts1 65 rfl rfl)) (fun _ h => h) dJ0_checkIndex_df160_2 ?_
    have hG : GoodIn tb (va_wsS "java/lang/String" 1059 yJ3_checkIndex_8e157 (.code yJ3_checkIndex_8e157 cJ3_checkIndex_8e157 3 (some .int) :: tb)) := by
      intro w hw
      rcases List.mem_append.mp hw with q | q
      · simp only [List.mem_cons, List.not_mem_nil, or_false] at q
        have w2 : Cond.methodLink "java/lang/String" 1059 yJ3_checkIndex_8e157 ∈ tb := ts1 67 rfl rfl
        rcases q with rfl | rfl | rfl
        · exact ⟨w2, tb_good w2⟩
        · exact ⟨mwJ3_checkIndex_8e157.1, tb_good mwJ3_checkIndex_8e157.1⟩
        · exact ⟨mwJ3_checkIndex_8e157.2.1, tb_good mwJ3_checkIndex_8e157.2.1⟩
      · exact tb_in mwJ3_checkIndex_8e157.2.2 w q
    have hrun := va_runS (l := l) (e := e) (below := below) (meth := meth) (locs := locs) (cells := cells) (slots := slots) (g := F0 m 5 al [v, .int x1, .int x0]) (As := [.int x0, .int x1, v]) (rest := []) (R := R) (H := H) (n := 3) ⟨hX.1, hX.2.1, hX.2.2.1, hX.2.2.2.2.1, hX.2.2.2.2.2.1⟩ (chk3 (d := d) (μ := μ) h h2 l N sh ρ cT D v hv)
      (va_cwS 3 hX.2.2.2.2.2.1 hG rfl rfl rfl mdJ3_checkIndex_8e157 ⟨hR.1, by have := hR.2.1; show 8 + (3 + 11) + 40 * (d + 1) ≤ R.locals; omega⟩)
      ⟨Pre_blind, fun U hU hw => ⟨rfl, Pre_at hB hW hA hS hU hw⟩⟩ rfl rfl hL.2.1 rfl (lv_room (Nat.zero_le _)) dJ0_checkIndex_df160_5 ⟨hR.2.2.1, hR.2.2.2⟩
    refine call_go hrun hB hS (fun H1 locs1 hW1 hS1 hv1 => ?_)
    have k1 : Ev (d + 1) yJ0_checkIndex_df160 cJ0_checkIndex_df160 2 none 8 [some (vi x0), some (vi x1)] [vi x0] μ none μ := by
      refine Ev_pop dJ0_checkIndex_df160_8 (fun _ z => by cases z) ?_
      exact R_v rfl dJ0_checkIndex_df160_9
    exact k1 l R N sh ρ cT D A p e s m args below meth c H1 locs1 cells slots al hR hC hB hX hW1 hA hS1 hls (fun v hv => by
      rcases List.mem_cons.mp hv with rfl | q
      · trivial
      · cases q) hL
  rcases hA.2.2.2.2.2 with hZ | ⟨t, hZ⟩
  · exact hgo .null rfl hZ
  · exact hgo (.ref t) rfl hZ
