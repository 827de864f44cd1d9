theorem CN_E {ρ ρ' : Nat → Nat} {cT : Nat → ClassId} : ∀ {x : CE}, CN x → ceE ρ cT x = ceE ρ' cT x
  | .inl o, hx => by
    show Sum.inr (o.1, o.2.map (cval ρ)) = Sum.inr (o.1, o.2.map (cval ρ'))
    congr 2
    apply List.map_congr_left
    intro v hv
    match v, hv with
    | none, _ => rfl
    | some (.inl x), _ => rfl
    | some (.inr (.inl x)), _ => rfl
    | some (.inr (.inr q)), hv => exact absurd (hx _ hv) (Nat.not_lt_zero _)
  | .inr _, hx => hx.elim
theorem CN_C {N : Nat} : ∀ {x : CE}, CN x → CC N x
  | .inl o, hx => fun v hv => (hx v hv).up (Nat.zero_le _)
  | .inr _, hx => hx.elim
theorem C_callF {d : Nat} {y : MethodName} {cc : ByteArray} {nL : Nat} {pc : Nat} {ls : List (Option V)} {st : List V} {N : Nat} {ce : Nat → CE} {kc ks N' : Nat} {ce' : Nat → CE} {y2 : MethodName} {cc2 : ByteArray} {nL2 idx t n a : Nat} {kc2 ks2 k : Nat} {c0 c1 : Nat → CE} (hw : IL y2 cc2 nL2 0) (hl : Cond.methodLink y.cls idx y2 ∈ tb) (hroom : (st.map catV).sum ≤ 8) (hd : decode cc pc = .ok (.invokespecial idx, 3)) (hcell : ce a = c0 0) (hcn : CN (c0 0)) (hNk : N + k < 900000) (hM : MeC d y2 cc2 nL2 [vr t 0 0] 1 c0 kc2 ks2 (1 + k) c1) (kk : EvC (d + 1) y cc nL (pc + 3) ls st (N + k) (liftCe N a k ce c1) kc ks N' ce') : EvC (d + 1) y cc nL pc ls (vr t n a :: st) N ce (kc + kc2) (ks + ks2) N' ce' := by
  intro l R N0 ρ0 ρ cT D A p e s m args below meth c H locs cells slots fc fs al hR hF hE hA hX hN hW hB hMc hS hls hst hL
  obtain ⟨w1, w3, w5, w6, w7, w8⟩ := hw
  have ha : a < N := hst.hd
  have hst2 : SC N st := hst.tl
  have hM := hM l (tinyR a ρ) cT D H.size (by decide) (fun v hv => by
    rcases List.mem_cons.mp hv with rfl | q
    · exact Nat.zero_lt_one
    · cases q)
  have hsub : ∀ q, AC 1 (tinyR a ρ) H.size q → A q := fun q h => by
    rcases h with ⟨i, hi, e⟩ | h
    · have : i = 0 := by omega
      subst this
      rw [e]
      exact hW.2.2.1.2 a _ (wc_get ha)
    · exact hA q (Nat.le_trans hS.1 h)
  have hwt : wc 1 c0 (tinyR a ρ) cT = [(ρ a, ceE ρ cT (ce a))] := by
    show [(tinyR a ρ 0, ceE (tinyR a ρ) cT (c0 0))] = _
    rw [hcell, CN_E (ρ' := ρ) hcn]
    rfl
  have hpre : ∀ U : State, U.heap = H → s.WarmedH U.vm → PreK 1 c0 (tinyR a ρ) cT D H.size U := fun U hU hwm => by
    refine ⟨by rw [hU], ⟨?_, va_K.moved hwm.alike hW.2.1, ⟨?_, ?_⟩, ?_⟩, ?_, hMc.warm hwm⟩
    · rw [hwt, hU]
      intro j q hj
      have hz : j < 1 := (List.getElem?_eq_some_iff.mp hj).1
      rw [show j = 0 by omega] at hj
      cases hj
      exact hW.1 a _ (wc_get ha)
    · rw [hwt]
      intro i j x x' hi hj _
      have h1 : i < 1 := (List.getElem?_eq_some_iff.mp hi).1
      have h2 : j < 1 := (List.getElem?_eq_some_iff.mp hj).1
      omega
    · rw [hwt]
      intro j q hj
      have hz : j < 1 := (List.getElem?_eq_some_iff.mp hj).1
      rw [show j = 0 by omega] at hj
      cases hj
      exact Or.inl ⟨0, Nat.zero_lt_one, rfl⟩
    · intro j hj
      rw [show j = 0 by omega]
      exact CN_C hcn
    · rw [hU]
      have e9 : Ext 0 ρ (tinyR a ρ) := fun b hb => by
        unfold tinyR
        rw [if_neg (by omega)]
      exact (((hB.kept hS.2.1).narrow hsub).ext e9).warm hwm
  have hrun := va_runI (l := l) (e := e) (below := below) (meth := meth) (locs := locs) (cells := cells) (slots := slots) (g := F0 m pc al ((vr t n a :: st).map (toV ρ))) (As := []) (rest := st.map (toV ρ)) (R := R) (H := H) (b := ρ a) (n := 0) ⟨hX.1, hX.2.1, hX.2.2.1, hX.2.2.2.2.1, hX.2.2.2.2.2.1⟩ hM
    (cwI 0 hX.2.2.2.2.2.1 (tb_in w6) rfl rfl rfl (hX.2.2.2.2.2.1 _ w5) (hX.2.2.2.2.2.1 _ hl) (hX.2.2.2.2.2.1 _ w3) w1 w7 ⟨hR.1, by have := hR.2.1; show 8 + (nL2 + 11) + 40 * (d + 1) ≤ R.locals; omega⟩)
    ⟨PreK_blind, fun U hU hwm => ⟨rfl, hpre U hU hwm⟩⟩ rfl rfl hL.2.1 rfl (lv_room (by rw [cat_sum]; exact hroom)) hd ⟨by have := hR.2.2.1; omega, by have := hR.2.2.2; omega⟩
  intro T hT X
  obtain ⟨v, st₀, t', T', L, h0, X', hL', e1, e2, ⟨hv, ⟨ρ1, hE', hWt⟩, hz, hk⟩, hst'⟩ := hrun T hT X
  have hv : v = none := by cases hv; rfl
  subst hv
  rw [h0] at hz hk
  have hvm : s.vm.Alike t'.vm := by rw [← e2]; exact X'.warmed.alike
  obtain ⟨hW2, hX2⟩ := lift_world (c0 := c0) ha hNk hA hS hW hE' (by rw [← e1] at hWt; exact hWt.1) hWt.2.2.1 hWt.2.2.2 (fun q h1 h2 => by rw [e1]; exact hk q h1 h2)
  have k1 := kk l R N0 ρ0 (liftR N k ρ ρ1) cT D A p e s m args below meth c T'.heap (locs ++ L) (cells + kc2) (slots + ks2) fc fs al hR ⟨by omega, by omega⟩ ⟨hE.1.tr hX2 hE.2.1, by omega, hNk⟩ hA hX hN hW2 (hB.ext hX2) hMc
    ⟨Nat.le_trans hS.1 (by rw [e1]; exact hz), fun q h1 h2 => by rw [e1, hk q (Nat.lt_of_lt_of_le h1 hS.1) (fun z => h2 (hsub q z))]; exact hS.2.1 q h1 h2, fun q hq => by
      rcases List.mem_append.mp hq with h | h
      · exact hS.2.2 q h
      · exact hsub _ (hL' q h)⟩ (fun v hv => (hls v hv).up (by omega)) (fun v hv => (hst2 v hv).up (by omega)) (hL.ext hX2 hls)
  rw [st_ext hX2 hst2] at k1
  obtain ⟨t2, a1, b1⟩ := k1 T' rfl X'
  exact ⟨t2, hst' t2 a1, b1⟩
