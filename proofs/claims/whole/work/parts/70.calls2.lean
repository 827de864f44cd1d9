/-! ===== calls: stop, order, undo ===== -/
def ordR (r : Nat → Nat) (l w h x y : Nat) : Nat → Nat := updN (updN (updN (updN r (52 + l) w) (56 + l) h) (60 + l) x) (64 + l) y
section Calls
variable {d n : Nat}
theorem ordR_ne {r : Nat → Nat} {l w h x y j : Nat} (h1 : j ≠ 52 + l) (h2 : j ≠ 56 + l) (h3 : j ≠ 60 + l) (h4 : j ≠ 64 + l) : ordR r l w h x y j = r j := by
  unfold ordR
  rw [updN_ne h4, updN_ne h3, updN_ne h2, updN_ne h1]
theorem ordR_at {r : Nat → Nat} {l w h x y : Nat} (hl : l < 4) : ordR r l w h x y (52 + l) = w ∧ ordR r l w h x y (56 + l) = h ∧ ordR r l w h x y (60 + l) = x ∧ ordR r l w h x y (64 + l) = y := by
  unfold ordR
  refine ⟨?_, ?_, ?_, updN_same⟩
  · rw [updN_ne (by omega), updN_ne (by omega), updN_ne (by omega), updN_same]
  · rw [updN_ne (by omega), updN_ne (by omega), updN_same]
  · rw [updN_ne (by omega), updN_same]
theorem SW.order {P : Pl} (pw : PW P) {B l w h x y : Nat} {r : Nat → Nat} (hr : SW P B r) (hl : l < pL P) (ho : w = 0 ∨ (1 ≤ w ∧ w ≤ pWi P l ∧ 1 ≤ h ∧ h ≤ 6 ∧ x < pW P ∧ y < pH P)) : SW P B (ordR r l w h x y) := by
  have h4 := pw.2.2.2.1
  have e : ∀ j, j < 52 ∨ 68 ≤ j → ordR r l w h x y j = r j := fun j q => ordR_ne (by omega) (by omega) (by omega) (by omega)
  refine ⟨⟨fun c hc => by rw [e c (by omega)]; exact hr.1.1 c hc, by rw [e 88 (by omega)]; exact hr.1.2⟩, fun c hc q => by rw [e c (by omega)]; exact hr.2.1 c hc q, fun i hi => ⟨by rw [e _ (by omega)]; exact (hr.2.2.1 i hi).1, ?_⟩, fun i q1 q2 => by rw [e _ (by omega)]; exact hr.2.2.2.1 i q1 q2, by rw [e 90 (by omega), e 68 (by omega), e 69 (by omega), e 70 (by omega), e 71 (by omega)]; exact hr.2.2.2.2⟩
  unfold OrdOK
  by_cases q : i = l
  · subst q
    obtain ⟨a1, a2, a3, a4⟩ := ordR_at (r := r) (w := w) (h := h) (x := x) (y := y) (show i < 4 by omega)
    rw [a1, a2, a3, a4]
    exact ho
  · rw [ordR_ne (j := 52 + i) (by omega) (by omega) (by omega) (by omega), ordR_ne (j := 56 + i) (by omega) (by omega) (by omega) (by omega), ordR_ne (j := 60 + i) (by omega) (by omega) (by omega) (by omega), ordR_ne (j := 64 + i) (by omega) (by omega) (by omega) (by omega)]
    exact (hr.2.2.1 i hi).2
theorem setOrder_c {s l : Nat} {a b c e : Int32} {μ : Mem} (hl : l < 4) : X5_setOrder (d + 2) s (nI l) a b c e μ (sI (sI (sI (sI μ (s + 2) (8 * l + 2) a) (s + 2) (8 * l + 3) b) (s + 2) (8 * l + 4) c) (s + 2) (8 * l + 5) e) := X5_setOrder_ok ⟨_, setPart_c (k := 2) hl (by decide), _, setPart_c (k := 3) hl (by decide), _, setPart_c (k := 4) hl (by decide), _, setPart_c (k := 5) hl (by decide), rfl⟩
theorem RowC.order {P : Pl} {s l w h x y : Nat} {a b c e : Int32} {μ m : Mem} {r : Nat → Nat} (pw : PW P) (hR : RowC P s μ r) (hl : l < pL P) (ha : a = if w = 0 then -2 else nI w) (hb : b = if w = 0 then -2 else nI h) (hc : c = if w = 0 then -2 else nI x) (he : e = if w = 0 then -2 else nI y) (hm : m = sI (sI (sI (sI μ (s + 2) (8 * l + 2) a) (s + 2) (8 * l + 3) b) (s + 2) (8 * l + 4) c) (s + 2) (8 * l + 5) e) : RowC P s m (ordR r l w h x y) := by
  have h4 := pw.2.2.2.1
  obtain ⟨r0, r1, r2, r3, r4, r5⟩ := hR
  have g : ∀ j, j ≠ s + 2 → m.1 j = μ.1 j := fun j q => by rw [hm, sI_n q, sI_n q, sI_n q, sI_n q]
  have k : ∀ j, j ≠ 8 * l + 2 → j ≠ 8 * l + 3 → j ≠ 8 * l + 4 → j ≠ 8 * l + 5 → m.1 (s + 2) j = μ.1 (s + 2) j := fun j q1 q2 q3 q4 => by rw [hm, sI_k q4, sI_k q3, sI_k q2, sI_k q1]
  have o : ∀ j, j < 52 ∨ 68 ≤ j → ordR r l w h x y j = r j := fun j q => ordR_ne (by omega) (by omega) (by omega) (by omega)
  refine ⟨by rw [g _ (by omega), o 89 (by omega)]; exact r0, by rw [g _ (by omega), o 88 (by omega)]; exact r1, fun i hi => by rw [g _ (by omega), o i (by omega)]; exact r2 i hi, fun i hi => ?_, fun i q1 q2 => by rw [k _ (by omega) (by omega) (by omega) (by omega)]; exact r4 i q1 q2, fun f hf => by rw [g _ (by omega), g _ (by omega), o _ (by omega), o _ (by omega)]; exact r5 f hf⟩
  obtain ⟨L0, L1, L2, L3, L4, L5, L6, L7⟩ := r3 i hi
  unfold LoomC ordI at *
  rw [o (48 + i) (by omega), o (68 + i) (by omega), o (72 + i) (by omega), k (8 * i) (by omega) (by omega) (by omega) (by omega), k (8 * i + 1) (by omega) (by omega) (by omega) (by omega), k (8 * i + 6) (by omega) (by omega) (by omega) (by omega), k (8 * i + 7) (by omega) (by omega) (by omega) (by omega)]
  by_cases q : i = l
  · subst q
    obtain ⟨a1, a2, a3, a4⟩ := ordR_at (r := r) (w := w) (h := h) (x := x) (y := y) (show i < 4 by omega)
    rw [a1, a2, a3, a4]
    refine ⟨L0, L1, ?_, ?_, ?_, ?_, L6, L7⟩
    · rw [hm, sI_k (by omega), sI_k (by omega), sI_k (by omega), sI_1]; exact ha
    · rw [hm, sI_k (by omega), sI_k (by omega), sI_1]; exact hb
    · rw [hm, sI_k (by omega), sI_1]; exact hc
    · rw [hm, sI_1]; exact he
  · rw [ordR_ne (j := 52 + i) (by omega) (by omega) (by omega) (by omega), ordR_ne (j := 56 + i) (by omega) (by omega) (by omega) (by omega), ordR_ne (j := 60 + i) (by omega) (by omega) (by omega) (by omega), ordR_ne (j := 64 + i) (by omega) (by omega) (by omega) (by omega), k (8 * i + 2) (by omega) (by omega) (by omega) (by omega), k (8 * i + 3) (by omega) (by omega) (by omega) (by omega), k (8 * i + 4) (by omega) (by omega) (by omega) (by omega), k (8 * i + 5) (by omega) (by omega) (by omega) (by omega)]
    exact ⟨L0, L1, L2, L3, L4, L5, L6, L7⟩
/-- the class's half and the model's half of a thing that sets an order -/
theorem order_halves {P : Pl} {p t nx l w h x y : Nat} {a b c e : Int32} {r : Nat → Nat} {H : Nat → Nat → Nat} {μC μM n2 : Mem} (hn : n ≤ 512) (hs : SimP n P p r μC μM) (hP : PastR P (99 + 720 * n) t nx H μC μM) (hl : l < pL P) (ha : a = if w = 0 then -2 else nI w) (hb : b = if w = 0 then -2 else nI h) (hc : c = if w = 0 then -2 else nI x) (he : e = if w = 0 then -2 else nI y) (ho : w = 0 ∨ (1 ≤ w ∧ w ≤ pWi P l ∧ 1 ≤ h ∧ h ≤ 6 ∧ x < pW P ∧ y < pH P))
    (kM : Kq scM μM n2) (r34 : RowM n2 34 (ordR r l w h x y)) : ∃ m1 μC' μM', X2_remember (d + 2) 13 μC m1 ∧ X5_setOrder (d + 2) 13 (nI l) a b c e m1 μC' ∧ X10_keeps (d + 2) n2 μM' ∧ Sim (n + 1) μC' μM' := by
  obtain ⟨⟨hC, hK, hR⟩, ⟨hM, hRM⟩, hS, hT, _, _, _, _⟩ := id hs
  have pw := hC.1
  have h4 := pw.2.2.2.1
  obtain ⟨m1, a1, a2, a3⟩ := remember_c (d := d + 1) pw hR hP.C
  have hR1 : RowC P 13 m1 r := hR.kq a2 fun a j q1 q2 => by unfold sPa; omega
  have hK1 : Kc P m1 := hK.of (a2.row fun j => by unfold sPa; omega) (a2.row fun j => by unfold sPa; omega)
  obtain ⟨m2, hm2⟩ : ∃ m, m = sI (sI (sI (sI m1 (13 + 2) (8 * l + 2) a) (13 + 2) (8 * l + 3) b) (13 + 2) (8 * l + 4) c) (13 + 2) (8 * l + 5) e := ⟨_, rfl⟩
  have e2 : ∀ a, a ≠ 13 + 2 → m2.1 a = m1.1 a := fun a q => by rw [hm2, sI_n q, sI_n q, sI_n q, sI_n q]
  have k2 : Kq (sDy p 13) m1 m2 := by
    rw [hm2]
    exact (((Kq.sI (by unfold sDy; omega)).trans (Kq.sI (by unfold sDy; omega))).trans (Kq.sI (by unfold sDy; omega))).trans (Kq.sI (by unfold sDy; omega))
  have so := setOrder_c (d := d) (s := 13) (l := l) (a := a) (b := b) (c := c) (e := e) (μ := m1) (by omega)
  rw [← hm2] at so
  obtain ⟨n3, g1, g2, g3, g4⟩ := keeps_m (d := d + 1) hP.1 (show RowM n2 33 r from fun j hj => by rw [kM.at (by unfold scM; omega)]; exact hRM j hj) r34 (show PastM t H n2 from ⟨by rw [kM.at (by unfold scM; omega)]; exact hP.M.1, fun i hi j hj => by rw [kM.at (by unfold scM; omega)]; exact hP.M.2 i hi j hj⟩)
  exact ⟨m1, m2, n3, a1, so, g1, done hs hP a2 a3 k2 (hK1.of (e2 10 (by decide)) (e2 11 (by decide))) (hR1.order pw hl ha hb hc he hm2) (dn_k (kM.mono fun a k q => Or.inr (Or.inr (Or.inr q))) g4) g2 g3 ((hS.order pw hl ho).mono (by omega))⟩
theorem call_stop {a : Int32} (hn : n ≤ 512) : Both (X9_stop (d + 8) a) (X10_stop (d + 8) a) n := by
  rintro μC μM ⟨P, p, r, h⟩
  obtain ⟨⟨hC, hK, hR⟩, ⟨hM, hRM⟩, hS, hT, ⟨t, nx, H, hP⟩, _, _, _⟩ := id h
  have pw := hC.1
  have h4 := pw.2.2.2.1
  have p1 := hasLoom_c (d := d + 7) (x := a) hC
  have p2 := isLoom_m (d := d + 6) (f := a) hM
  cases hp : inN a (pL P) with
  | false =>
    rw [hp] at p1 p2
    exact ⟨0, μC, μM, X9_stop_ok ⟨_, μC, by rw [hC.ptr0]; exact p1, tpos rfl ⟨rfl, rfl⟩⟩, X10_stop_ok ⟨_, μM, p2, tpos rfl ⟨rfl, rfl⟩⟩, h.next⟩
  | true =>
    rw [hp] at p1 p2
    obtain ⟨l, hl, rfl⟩ := inN_ex hp
    have o1 := hasOrder_c (d := d + 5) pw hl hR hS
    have e52 : (52 : Int32) + nI l = nI (52 + l) := nJ_add 52 l
    have v52 : vp_in (nI (52 + l)) 92 := vp_inN (by omega) (by decide)
    by_cases h0 : r (52 + l) = 0
    · rw [decide_eq_false (fun z => z h0)] at o1
      refine ⟨0, μC, μM, X9_stop_ok ⟨_, μC, by rw [hC.ptr0]; exact p1, tneg (by decide) ⟨_, μC, o1, teq rfl ⟨rfl, rfl⟩⟩⟩, X10_stop_ok ⟨_, μM, p2, tneg (by decide) ?_⟩, h.next⟩
      rw [e52, nI_clamp (by omega), hRM _ (by omega), h0]
      exact ⟨v52, teq rfl ⟨rfl, rfl⟩⟩
    · rw [decide_eq_true h0] at o1
      have oi := hS.ordIn pw hl h0
      obtain ⟨n1, b1, b2, b3, b4⟩ := copies_m (d := d + 7) hM hRM
      obtain ⟨n2, hn2⟩ : ∃ m, m = sI (sI (sI (sI n1 34 (52 + l) 0) 34 (56 + l) 0) 34 (60 + l) 0) 34 (64 + l) 0 := ⟨_, rfl⟩
      have kM : Kq scM μM n2 := (fC_scM b2).trans (by
        rw [hn2]
        exact (((Kq.sI (by unfold scM; omega)).trans (Kq.sI (by unfold scM; omega))).trans (Kq.sI (by unfold scM; omega))).trans (Kq.sI (by unfold scM; omega)))
      have r34 : RowM n2 34 (ordR r l 0 0 0 0) := by
        rw [hn2]
        exact (((b3.upd (k := 52 + l) (v := 0)).upd (k := 56 + l) (v := 0)).upd (k := 60 + l) (v := 0)).upd (k := 64 + l) (v := 0)
      obtain ⟨m1, mC, mM, c1, c2, c3, c4⟩ := order_halves (d := d + 5) (w := 0) (h := 0) (x := 0) (y := 0) hn h hP hl (a := -2) (b := -2) (c := -2) (e := -2) rfl rfl rfl rfl (Or.inl rfl) kM r34
      refine ⟨1, mC, mM, X9_stop_ok ⟨_, μC, by rw [hC.ptr0]; exact p1, tneg (by decide) ⟨_, μC, o1, tne (by decide) ⟨m1, c1, mC, c2, rfl, rfl⟩⟩⟩, X10_stop_ok ⟨_, μM, p2, tneg (by decide) ?_⟩, c4⟩
      rw [e52, nI_clamp (by omega), hRM _ (by omega)]
      refine ⟨v52, tne (nI_ne0 (by omega) (by omega)) ⟨n1, b1, ?_⟩⟩
      have st : ∀ (k : Nat) (μ1 μ2 : Mem), k + l < 92 → k < 68 → μ2 = sI μ1 34 (k + l) 0 → X10_stop_at29 (d + 7) (nI l) (nI (k + 4)) μ2 1 mM → X10_stop_at29 (d + 7) (nI l) (nI k) μ1 1 mM := by
        intro k μ1 μ2 q1 q2 e1 e2
        refine X10_stop_at29_ok (tneg (nI_ge (b := 68) q2 (by decide)) ?_)
        rw [nJ_add, nI_clamp (by omega)]
        refine ⟨vp_inN q1 (by decide), ?_⟩
        rintro μ3 rfl
        rw [← e1, show nI k + 4 = nI (k + 4) from nJ_add k 4]
        exact e2
      refine st 52 n1 _ (by omega) (by decide) rfl (st 56 _ _ (by omega) (by decide) rfl (st 60 _ _ (by omega) (by decide) rfl (st 64 _ _ (by omega) (by decide) rfl (X10_stop_at29_ok (tpos (by decide) ⟨mM, ?_, rfl, rfl⟩)))))
      rw [← hn2]
      exact c3
theorem isOrdered_c {P : Pl} {B l w h x y : Nat} {r : Nat → Nat} {μ : Mem} (pw : PW P) (hl : l < pL P) (hw : 1 ≤ w) (hw8 : w ≤ 8) (hh : h ≤ 6) (hx : x < 8) (hy : y < 8) (hR : RowC P 13 μ r) (hS : SW P B r) : X5_isOrdered (d + 2) 13 (nI l) (nI w) (nI h) (nI x) (nI y) μ (bI (decide (r (52 + l) = w ∧ r (56 + l) = h ∧ r (60 + l) = x ∧ r (64 + l) = y))) μ := by
  have h4 := pw.2.2.2.1
  have pc : ∀ k, k < 8 → X5_part (d + 1) 13 (nI l) (nI k) μ (μ.1 15 (8 * l + k)) μ := fun k hk => part_c (d := d) (s := 13) (μ := μ) (l := l) (k := k) (by omega) hk
  have p2 := pc 2 (by decide)
  have p3 := pc 3 (by decide)
  have p4 := pc 4 (by decide)
  have p5 := pc 5 (by decide)
  obtain ⟨L0, L1, L2, L3, L4, L5, L6, L7⟩ := hR.2.2.2.1 l hl
  rw [show (13 : Nat) + 2 = 15 from rfl] at L2 L3 L4 L5
  rw [L2] at p2
  rw [L3] at p3
  rw [L4] at p4
  rw [L5] at p5
  refine X5_isOrdered_ok ⟨_, μ, p2, ?_⟩
  unfold ordI at *
  by_cases h0 : r (52 + l) = 0
  · rw [if_pos h0, decide_eq_false (by omega)]
    refine tne (fun z => ?_) ⟨rfl, rfl⟩
    have := nI_pos' (n := w) (by omega)
    rw [← z] at this
    exact absurd this (by decide)
  · have oi := hS.ordIn pw hl h0
    rw [if_neg h0] at p3 p4 p5 ⊢
    by_cases e1 : r (52 + l) = w
    · refine teq (by rw [e1]) ⟨_, μ, p3, ?_⟩
      by_cases e2 : r (56 + l) = h
      · refine teq (by rw [e2]) ⟨_, μ, p4, ?_⟩
        by_cases e3 : r (60 + l) = x
        · refine teq (by rw [e3]) ⟨_, μ, p5, ?_⟩
          by_cases e4 : r (64 + l) = y
          · rw [decide_eq_true ⟨e1, e2, e3, e4⟩]
            exact teq (by rw [e4]) ⟨rfl, rfl⟩
          · rw [decide_eq_false (fun z => e4 z.2.2.2)]
            exact tne (fun z => e4 (nI_inj (by omega) (by omega) z)) ⟨rfl, rfl⟩
        · rw [decide_eq_false (fun z => e3 z.2.2.1)]
          exact tne (fun z => e3 (nI_inj (by omega) (by omega) z)) ⟨rfl, rfl⟩
      · rw [decide_eq_false (fun z => e2 z.2.1)]
        exact tne (fun z => e2 (nI_inj (by omega) (by omega) z)) ⟨rfl, rfl⟩
    · rw [decide_eq_false (fun z => e1 z.1)]
      exact tne (fun z => e1 (nI_inj (by omega) (by omega) z)) ⟨rfl, rfl⟩
end Calls
